/-! CALLS: log, both, run, just -/
theorem x6_upAgo {σ : zH} {s sz q k : Nat} (hsz : sz ≤ 192) (hq : q ≤ 192) (h1 : σ.1 6 s 1 + 1 = nI q) (h2 : σ.1 6 s 2 = nI sz) (hk1 : 1 ≤ k) (hk2 : k ≤ sz) : d_X6_upAgo σ s (nI k) = some (σ, σ.1 30 s ((q + 192 - k) % 192)) := by
  unfold d_X6_upAgo
  rw [h1, h2, if_neg (show ¬ nI k < (1 : Int32) from nI_nlt (b := 1) hk1 (by omega)), if_neg (nI_nlt hk2 (by omega)), Nat.add_zero]
  by_cases h : q < k
  · have e : nI q - nI k + (192 : Int32) = nI (q + 192 - k) := by
      rw [← pk_sub (show k ≤ q + 192 by omega), ← nI_add, Int32.sub_eq_add_neg, Int32.sub_eq_add_neg, show (192 : Int32) = nI 192 from rfl]
      ac_rfl
    rw [if_pos (show nI q - nI k < 0 from pk_sneg (by omega) h), e, ix_nI (by omega) (by omega), Nat.mod_eq_of_lt (by omega)]
  · rw [pk_sub (by omega), if_neg (nI_nneg (by omega)), ix_nI (by omega) (by omega), show q + 192 - k = (q - k) + 192 by omega, Nat.add_mod_right, Nat.mod_eq_of_lt (by omega)]
theorem i10 : ¬ (1 : Int32) = 0 := by decide
theorem i32_lt1 {x : Int32} (h : ¬ x < 1) : ∃ k, 1 ≤ k ∧ k < 2 ^ 31 ∧ x = nI k := by
  rw [fa_lt, i32_1] at h
  obtain ⟨k, hk, rfl⟩ := nI_of (x := x) (by rw [fa_lt, i32_0]; omega)
  rw [nI_toInt hk] at h
  exact ⟨k, by omega, hk, rfl⟩
theorem r_log {σc σm : zH} (h : qR σc σm) (x : Int32) : zrel (d_X10_log σc x) (d_X11_log σm x) qR := by
  obtain ⟨E, wt, D, v⟩ := h.2.2.1
  obtain ⟨sz, q, a7, a8, a9, a10, a11, a12⟩ := v.2.2.2.2.2.2.1
  unfold d_X10_log d_X11_log
  by_cases h1 : x < 1
  · rw [in_0 (A := 1) 1 (σm.1 42 0 9) rfl rfl (Or.inl h1)]
    simp only [Option.bind_some, if_true]
    unfold d_X6_upAgo
    rw [if_pos h1]
    exact zrel_same h
  · by_cases h2 : nI sz < x
    · rw [in_0 (A := 1) 1 (σm.1 42 0 9) rfl rfl (Or.inr (by rw [a11]; exact h2))]
      simp only [Option.bind_some, if_true]
      unfold d_X6_upAgo
      rw [if_neg h1, a10, if_pos h2]
      exact zrel_same h
    · obtain ⟨k, hk1, hk, rfl⟩ := i32_lt1 h1
      rw [nI_ltI (by omega) hk] at h2
      rw [in_1 (A := 1) 1 (σm.1 42 0 9) rfl rfl h1 (by rw [a11]; exact nI_nlt (by omega) (by omega)), x6_upAgo a7 a8 a9 a10 hk1 (by omega)]
      simp only [Option.bind_some]
      rw [if_neg (by decide), show nI k - 1 = nI (k - 1) by rw [show k = (k - 1) + 1 by omega, nI_pred]; rfl, ix_nI (by omega) (by omega), a12 k hk1 (by omega)]
      exact zrel_same h
/-- two companies' bits in a set -/
theorem bits_in (y : Int32) {a b : Nat} (ha : a < 32) (hb : b < 32) : (y &&& (q1 a ||| q1 b) = (q1 a ||| q1 b)) ↔ (bt y a = true ∧ bt y b = true) := by
  constructor
  · intro h
    have g : ∀ i, i < 32 → bt (y &&& (q1 a ||| q1 b)) i = bt (q1 a ||| q1 b) i := fun i _ => by rw [h]
    have g1 := g a ha
    have g2 := g b hb
    rw [b_and, b_or, bt_q1 ha ha, bt_q1 hb ha] at g1
    rw [b_and, b_or, bt_q1 ha hb, bt_q1 hb hb] at g2
    simp at g1 g2
    exact ⟨g1, g2⟩
  · rintro ⟨h1, h2⟩
    refine b_ext (fun i hi => ?_)
    rw [b_and, b_or, bt_q1 ha hi, bt_q1 hb hi]
    by_cases e1 : i = a
    · rw [e1, h1]; simp
    · by_cases e2 : i = b
      · rw [e2, h2]; simp
      · simp [e1, e2]
theorem bit_in (y : Int32) {a : Nat} (ha : a < 32) : (y &&& q1 a = q1 a) ↔ bt y a = true := by
  have := bits_in y ha ha
  have e : q1 a ||| q1 a = q1 a := b_ext (fun i hi => by rw [b_or, Bool.or_self])
  rw [e] at this
  rw [this]
  exact ⟨fun h => h.1, fun h => ⟨h, h⟩⟩
theorem r_both {σc σm : zH} (h : qR σc σm) (x y : Int32) : zrel (d_X10_both σc x y) (d_X11_both_ σm x y) qR := by
  obtain ⟨E, wt, D, v⟩ := h.2.2.1
  have hn := v.1.1.1
  have c0 : σc.1 0 1 0 = nI (qeN E) := v.1.1.2.1
  have m0 : σm.1 42 0 0 = nI (qeN E) := v.2.1.1.2.1
  obtain ⟨sz, q, a7, a8, a9, a10, a11, a12⟩ := v.2.2.2.2.2.2.1
  unfold d_X10_both d_X11_both_
  rcases num_case x (qeN E) (by omega) with hx | ⟨a, ha, rfl⟩
  · rw [x10_noCompany c0 hx, x11_noCompany m0 hn hx]
    exact zrel_same h
  rw [x10_isCompany c0 hn ha, x11_isCompany m0 hn ha]
  simp only [Option.bind_some]
  rw [if_neg i10, if_neg i10]
  rcases num_case y (qeN E) (by omega) with hy | ⟨b, hb, rfl⟩
  · rw [x10_noCompany c0 hy, x11_noCompany m0 hn hy]
    exact zrel_same h
  rw [x10_isCompany c0 hn hb, x11_isCompany m0 hn hb]
  simp only [Option.bind_some]
  rw [if_neg i10, if_neg i10]
  by_cases hab : nI a = nI b
  · rw [if_pos hab, if_pos hab]
    exact zrel_same h
  rw [if_neg hab, if_neg hab]
  refine zrel_of (v := qsum (fun k => if bt (σm.1 66 0 k) a && bt (σm.1 66 0 k) b then 1 else 0) sz) (P1 := fun σ => σ = σc) (P2 := fun σ => σ = σm) ?_ ?_ (fun _ _ e1 e2 => by rw [e1, e2]; exact h)
  · refine zwp_bind.mpr (zwp_mono (P := fun p => p = (σc, qsum (fun k => if bt (σm.1 66 0 k) a && bt (σm.1 66 0 k) b then 1 else 0) sz)) ?_ (fun p hp => zwp_some.mpr (by rw [hp]; exact ⟨rfl, rfl⟩)))
    unfold d_X6_quartersWith
    rw [show k_X6_quartersWith_4 zN σc 0 ((1 : Int32) <<< (nI a &&& 31) ||| (1 : Int32) <<< (nI b &&& 31)) (0 : Int32) (1 : Int32) = k_X6_quartersWith_4 zN σc 0 (q1 a ||| q1 b) (0 : Int32) (nI (0 + 1)) by rw [show nI (0 + 1) = (1 : Int32) from nI_one]; rfl]
    refine zwp_for (fun f i (s : Int32) => k_X6_quartersWith_4 f σc 0 (q1 a ||| q1 b) s (nI (i + 1))) (fun i s => s = qsum (fun k => if bt (σm.1 66 0 k) a && bt (σm.1 66 0 k) b then 1 else 0) i) _ 0 sz (by omega) (by omega) ?_ ?_ _ rfl
    · rintro f i _ hi rfl IH
      rw [k_X6_quartersWith_4, a10, if_neg (nI_nlt (by omega) (by omega)), x6_upAgo a7 a8 a9 a10 (by omega) (by omega), a12 (i + 1) (by omega) (by omega)]
      simp only [Option.bind_some, Nat.add_sub_cancel]
      rw [nI_1]
      refine zwp_if (fun e => IH _ ?_) (fun e => IH _ ?_)
      · rw [bits_in _ (by omega) (by omega)] at e
        rw [qsum, e.1, e.2]; rfl
      · rw [bits_in _ (by omega) (by omega), ← Bool.and_eq_true] at e
        rw [qsum, if_neg e, Int32.add_zero]
    · rintro f _ rfl
      rw [k_X6_quartersWith_4, a10, if_pos (nI_lt (by omega) (by omega))]
      exact zwp_some.mpr rfl
  · rw [show k_X11_both__28 zN σm (nI a) (nI b) (0 : Int32) (0 : Int32) = k_X11_both__28 zN σm (nI a) (nI b) (0 : Int32) (nI 0) by rw [nI_0]]
    refine zwp_for (fun f i (s : Int32) => k_X11_both__28 f σm (nI a) (nI b) s (nI i)) (fun i s => s = qsum (fun k => if bt (σm.1 66 0 k) a && bt (σm.1 66 0 k) b then 1 else 0) i) _ 0 sz (by omega) (by omega) ?_ ?_ _ rfl
    · rintro f i _ hi rfl IH
      rw [k_X11_both__28, a11, if_pos (nI_lt hi (by omega)), ix_nI (by omega) (by omega), has_eq _ _ (by omega)]
      simp only [Option.bind_some]
      unfold j_X11_both__73 j_X11_both__74
      rw [nI_1]
      refine zwp_if (fun e => IH _ ?_) (fun e => ?_)
      · rw [b2i_0] at e
        rw [qsum, e]; rfl
      · rw [b2i_0, Bool.not_eq_false] at e
        rw [ix_nI (by omega) (by omega), has_eq _ _ (by omega)]
        simp only [Option.bind_some]
        refine zwp_if (fun e2 => IH _ ?_) (fun e2 => IH _ ?_)
        · rw [b2i_0] at e2
          rw [qsum, e, e2]; rfl
        · rw [b2i_0, Bool.not_eq_false] at e2
          rw [qsum, e, e2]; rfl
    · rintro f _ rfl
      rw [k_X11_both__28, a11, if_neg (nI_nlt (Nat.le_refl _) (by omega))]
      exact zwp_some.mpr ⟨rfl, rfl⟩
def qrunl (p : Nat → Bool) : Nat → Int32 × Int32
  | 0 => (0, 0)
  | n + 1 => (zmx (qrunl p n).1 (if p n then (qrunl p n).2 + 1 else 0), if p n then (qrunl p n).2 + 1 else 0)
theorem r_run {σc σm : zH} (h : qR σc σm) (x : Int32) : zrel (d_X10_run σc x) (d_X11_run σm x) qR := by
  obtain ⟨E, wt, D, v⟩ := h.2.2.1
  have hn := v.1.1.1
  have c0 : σc.1 0 1 0 = nI (qeN E) := v.1.1.2.1
  have m0 : σm.1 42 0 0 = nI (qeN E) := v.2.1.1.2.1
  obtain ⟨sz, q, a7, a8, a9, a10, a11, a12⟩ := v.2.2.2.2.2.2.1
  unfold d_X10_run d_X11_run
  rcases num_case x (qeN E) (by omega) with hx | ⟨a, ha, rfl⟩
  · rw [x10_noCompany c0 hx, x11_noCompany m0 hn hx]
    exact zrel_same h
  rw [x10_isCompany c0 hn ha, x11_isCompany m0 hn ha]
  simp only [Option.bind_some]
  rw [if_neg i10, if_neg i10]
  generalize hp : (fun k => bt (σm.1 66 0 k) a) = p
  have hpi : ∀ k, bt (σm.1 66 0 k) a = p k := fun k => by rw [← hp]
  refine zrel_of (v := (qrunl p sz).1) (P1 := fun σ => σ = σc) (P2 := fun σ => σ = σm) ?_ ?_ (fun _ _ e1 e2 => by rw [e1, e2]; exact h)
  · refine zwp_bind.mpr (zwp_mono (P := fun r => r = (σc, (qrunl p sz).1)) ?_ (fun r hr => zwp_some.mpr (by rw [hr]; exact ⟨rfl, rfl⟩)))
    unfold d_X6_longestRun
    rw [show k_X6_longestRun_7 zN σc 0 ((1 : Int32) <<< (nI a &&& 31)) (0 : Int32) (0 : Int32) (1 : Int32) = k_X6_longestRun_7 zN σc 0 (q1 a) (0 : Int32) (0 : Int32) (nI (0 + 1)) by rw [show nI (0 + 1) = (1 : Int32) from nI_one]; rfl]
    refine zwp_for (fun f i (s : Int32 × Int32) => k_X6_longestRun_7 f σc 0 (q1 a) s.1 s.2 (nI (i + 1))) (fun i s => s = qrunl p i) _ 0 sz (by omega) (by omega) ?_ ?_ (0, 0) rfl
    · rintro f i _ hi rfl IH
      rw [k_X6_longestRun_7, a10, if_neg (nI_nlt (by omega) (by omega)), x6_upAgo a7 a8 a9 a10 (by omega) (by omega), a12 (i + 1) (by omega) (by omega)]
      simp only [Option.bind_some, Nat.add_sub_cancel]
      unfold j_X6_longestRun_35
      rw [nI_1]
      refine zwp_if (fun e => ?_) (fun e => ?_)
      · rw [bit_in _ (by omega), hpi] at e
        exact IH (zmx (qrunl p i).1 ((qrunl p i).2 + 1), (qrunl p i).2 + 1) (by rw [qrunl, if_pos e])
      · rw [bit_in _ (by omega), hpi] at e
        exact IH (zmx (qrunl p i).1 0, 0) (by rw [qrunl, if_neg e])
    · rintro f _ rfl
      rw [k_X6_longestRun_7, a10, if_pos (nI_lt (by omega) (by omega))]
      exact zwp_some.mpr rfl
  · rw [show k_X11_run_17 zN σm (nI a) (0 : Int32) (0 : Int32) (0 : Int32) = k_X11_run_17 zN σm (nI a) (0 : Int32) (0 : Int32) (nI 0) by rw [nI_0]]
    refine zwp_for (fun f i (s : Int32 × Int32) => k_X11_run_17 f σm (nI a) s.1 s.2 (nI i)) (fun i s => s = qrunl p i) _ 0 sz (by omega) (by omega) ?_ ?_ (0, 0) rfl
    · rintro f i _ hi rfl IH
      rw [k_X11_run_17, a11, if_pos (nI_lt hi (by omega)), ix_nI (by omega) (by omega), has_eq _ _ (by omega), hpi]
      simp only [Option.bind_some]
      have hgo : ∀ r, r = (if p i then (qrunl p i).2 + 1 else 0) → zwp (j_X11_run_50 (k_X11_run_17 f) σm (nI a) (qrunl p i).1 (nI i) r) (fun r => r.1 = σm ∧ r.2 = (qrunl p sz).1) := fun r hr => by
        unfold j_X11_run_50 j_X11_run_61
        rw [nI_1]
        refine zwp_if (fun e => IH (r, r) ?_) (fun e => IH ((qrunl p i).1, r) ?_)
        · rw [qrunl, ← hr]; unfold zmx; rw [if_pos e]
        · rw [qrunl, ← hr]; unfold zmx; rw [if_neg e]
      refine zwp_if (fun e => hgo _ ?_) (fun e => hgo _ ?_)
      · rw [b2i_0] at e
        rw [e]; rfl
      · rw [b2i_0, Bool.not_eq_false] at e
        rw [if_pos e]
    · rintro f _ rfl
      rw [k_X11_run_17, a11, if_neg (nI_nlt (Nat.le_refl _) (by omega))]
      exact zwp_some.mpr ⟨rfl, rfl⟩
/-! sets of companies -/
theorem mask_pow : ∀ n, n < 13 → (1 : Int32) <<< (nI n &&& 31) - 1 = nI (2 ^ n - 1) := by decide +kernel
theorem pow_le12 {n : Nat} (h : n ≤ 12) : 2 ^ n ≤ 4096 ∧ 1 ≤ 2 ^ n := ⟨Nat.pow_le_pow_right (by omega) h, Nat.one_le_two_pow⟩
theorem x10_are {σ : zH} {n : Nat} (h0 : σ.1 0 1 0 = nI n) (hn : n ≤ 12) (x : Int32) : d_X10_areCompanies σ x = some (σ, b2i (!decide (x < 0) && !decide ((1 : Int32) <<< (nI n &&& 31) - 1 < x))) := by
  unfold d_X10_areCompanies
  rw [show σ.1 0 (0 + 1) 0 = nI n from h0]
  by_cases h1 : x < 0
  · rw [if_pos h1, decide_eq_true h1]; rfl
  · rw [if_neg h1, decide_eq_false h1]
    obtain ⟨b, hb, rfl⟩ := nI_of h1
    have hp := pow_le12 hn
    rw [pk_shrN hb _ n (s_l n (by omega)), mask_pow n (by omega)]
    by_cases h2 : b < 2 ^ n
    · rw [Nat.div_eq_of_lt h2, if_pos nI_0, decide_eq_false (nI_nlt (by omega) (by omega))]; rfl
    · have h3 : 0 < b / 2 ^ n := Nat.div_pos (by omega) (by omega)
      have h4 : b / 2 ^ n ≤ b := Nat.div_le_self _ _
      rw [if_neg (nI_ne0 h3 (by omega)), decide_eq_true (nI_lt (by omega) (by omega))]; rfl
theorem x11_inset {σ : zH} {n : Nat} (h0 : σ.1 42 0 0 = nI n) (x : Int32) : d_X11_in σ x.toInt64 (0 : Int64) (((1 : Int32) <<< (σ.1 42 0 0 &&& 31) - 1).toInt64) = some (σ, b2i (!decide (x < 0) && !decide ((1 : Int32) <<< (nI n &&& 31) - 1 < x))) := by
  rw [h0, show (0 : Int64) = (0 : Int32).toInt64 from rfl, in_32]
theorem r_just {σc σm : zH} (h : qR σc σm) (x y : Int32) : zrel (d_X10_just σc x y) (d_X11_just σm x y) qR := by
  obtain ⟨E, wt, D, v⟩ := h.2.2.1
  have hn := v.1.1.1
  have c0 : σc.1 0 1 0 = nI (qeN E) := v.1.1.2.1
  have m0 : σm.1 42 0 0 = nI (qeN E) := v.2.1.1.2.1
  obtain ⟨sz, q, a7, a8, a9, a10, a11, a12⟩ := v.2.2.2.2.2.2.1
  unfold d_X10_just d_X11_just
  rw [x10_are c0 hn, x11_inset m0]
  simp only [Option.bind_some]
  by_cases hx : b2i (!decide (x < 0) && !decide ((1 : Int32) <<< (nI (qeN E) &&& 31) - 1 < x)) = 0
  · rw [if_pos hx, if_pos hx]
    exact zrel_same h
  rw [if_neg hx, if_neg hx]
  by_cases h1 : y < 0
  · rw [if_pos h1, in_0 (A := 0) (B := 1) 0 1 rfl rfl (Or.inl h1)]
    exact zrel_same h
  rw [if_neg h1]
  by_cases h2 : (1 : Int32) < y
  · rw [if_pos h2, in_0 (A := 0) (B := 1) 0 1 rfl rfl (Or.inr h2)]
    exact zrel_same h
  rw [if_neg h2, in_1 (A := 0) (B := 1) 0 1 rfl rfl h1 h2]
  simp only [Option.bind_some]
  rw [if_neg i10]
  generalize hp : (fun k => decide (σm.1 66 0 k = x)) = p
  have hpi : ∀ k, p k = decide (σm.1 66 0 k = x) := fun k => by rw [← hp]
  -- the reference's loop gives both
  have hm : zwp (k_X11_just_41 j_X11_just_107 zN σm x y (0 : Int32) (-2 : Int32) (0 : Int32)) (fun r => r.1 = σm ∧ r.2 = if y = 0 then qsum (fun k => if p k then 1 else 0) sz else if qfst p sz = -1 then -2 else qfst p sz + 1) := by
    rw [show k_X11_just_41 j_X11_just_107 zN σm x y (0 : Int32) (-2 : Int32) (0 : Int32) = k_X11_just_41 j_X11_just_107 zN σm x y (0 : Int32) (-2 : Int32) (nI 0) by rw [nI_0]]
    refine zwp_for (fun f i (s : Int32 × Int32) => k_X11_just_41 j_X11_just_107 f σm x y s.1 s.2 (nI i)) (fun i s => s.1 = qsum (fun k => if p k then 1 else 0) i ∧ ((qany p i = false ∧ s.2 = -2) ∨ (∃ j, j < i ∧ p j = true ∧ (∀ j', j' < j → p j' = false) ∧ s.2 = nI (j + 1)))) _ 0 sz (by omega) (by omega) ?_ ?_ (0, -2) ⟨rfl, Or.inl ⟨rfl, rfl⟩⟩
    · rintro f i ⟨s, g⟩ hi ⟨e1, e2⟩ IH
      dsimp only at e1 e2 ⊢
      rw [k_X11_just_41, a11, if_pos (nI_lt hi (by omega)), ix_nI (by omega) (by omega)]
      have hgo : ∀ z, z = (if p i then 1 else 0) → zwp (j_X11_just_70 (k_X11_just_41 j_X11_just_107 f) σm x y g (nI i) s z) (fun r => r.1 = σm ∧ r.2 = if y = 0 then qsum (fun k => if p k then 1 else 0) sz else if qfst p sz = -1 then -2 else qfst p sz + 1) := fun z hz => by
        have e3 : s + z = qsum (fun k => if p k then 1 else 0) (i + 1) := by rw [qsum, e1, hz]
        unfold j_X11_just_70 j_X11_just_97 j_X11_just_99
        rw [ix_nI (by omega) (by omega), nI_1]
        refine zwp_if (fun e => ?_) (fun e => ?_)
        · have hno : qany p i = false := by
            rcases e2 with ⟨q1, -⟩ | ⟨j, hj, -, -, q4⟩
            · exact q1
            · rw [e] at q4
              have := congrArg Int32.toInt q4
              rw [nI_toInt (by omega), i32_m2] at this
              omega
          refine zwp_if (fun e4 => ?_) (fun e4 => ?_)
          · exact IH (_, _) ⟨e3, Or.inr ⟨i, by omega, by rw [hpi]; exact decide_eq_true e4, fun j hj => qany_f hno j hj, rfl⟩⟩
          · exact IH (_, _) ⟨e3, Or.inl ⟨by rw [qany, hno, hpi, decide_eq_false e4]; rfl, e⟩⟩
        · rcases e2 with ⟨-, q2⟩ | ⟨j, hj, q2, q3, q4⟩
          · exact absurd q2 e
          · exact IH (_, _) ⟨e3, Or.inr ⟨j, by omega, q2, q3, q4⟩⟩
      refine zwp_if (fun e => hgo _ ?_) (fun e => hgo _ ?_)
      · rw [if_pos (by rw [hpi]; exact decide_eq_true e)]
      · rw [if_neg (by rw [hpi, decide_eq_false e]; decide)]
    · rintro f ⟨s, g⟩ ⟨e1, e2⟩
      dsimp only at e1 e2 ⊢
      rw [k_X11_just_41, a11, if_neg (nI_nlt (Nat.le_refl _) (by omega))]
      unfold j_X11_just_107
      by_cases hy : y = 0
      · rw [if_pos hy, if_pos hy]
        exact zwp_some.mpr ⟨rfl, e1⟩
      · rw [if_neg hy, if_neg hy]
        refine zwp_some.mpr ⟨rfl, ?_⟩
        rcases e2 with ⟨q1, q2⟩ | ⟨j, hj, q2, q3, q4⟩
        · rw [qfst_no q1, if_pos rfl]; exact q2
        · rw [qfst_of (qany_no q3) q2 hj, if_neg (ne_m1 (by omega)), nI_1]; exact q4
  by_cases hy : y = 0
  · rw [if_pos hy]
    rw [if_pos hy] at hm
    refine zrel_of (v := qsum (fun k => if p k then 1 else 0) sz) (P1 := fun σ => σ = σc) (P2 := fun σ => σ = σm) ?_ hm (fun _ _ e1 e2 => by rw [e1, e2]; exact h)
    refine zwp_bind.mpr (zwp_mono (P := fun r => r = (σc, qsum (fun k => if p k then 1 else 0) sz)) ?_ (fun r hr => zwp_some.mpr (by rw [hr]; exact ⟨rfl, rfl⟩)))
    unfold d_X6_quartersOf
    rw [show k_X6_quartersOf_4 zN σc 0 x (0 : Int32) (1 : Int32) = k_X6_quartersOf_4 zN σc 0 x (0 : Int32) (nI (0 + 1)) by rw [show nI (0 + 1) = (1 : Int32) from nI_one]]
    refine zwp_for (fun f i (s : Int32) => k_X6_quartersOf_4 f σc 0 x s (nI (i + 1))) (fun i s => s = qsum (fun k => if p k then 1 else 0) i) _ 0 sz (by omega) (by omega) ?_ ?_ _ rfl
    · rintro f i _ hi rfl IH
      rw [k_X6_quartersOf_4, a10, if_neg (nI_nlt (by omega) (by omega)), x6_upAgo a7 a8 a9 a10 (by omega) (by omega), a12 (i + 1) (by omega) (by omega)]
      simp only [Option.bind_some, Nat.add_sub_cancel]
      rw [nI_1]
      refine zwp_if (fun e => IH _ ?_) (fun e => IH _ ?_)
      · rw [qsum, if_pos (by rw [hpi]; exact decide_eq_true e)]
      · rw [qsum, if_neg (by rw [hpi, decide_eq_false e]; decide), Int32.add_zero]
    · rintro f _ rfl
      rw [k_X6_quartersOf_4, a10, if_pos (nI_lt (by omega) (by omega))]
      exact zwp_some.mpr rfl
  · rw [if_neg hy]
    rw [if_neg hy] at hm
    refine zrel_of (v := if qfst p sz = -1 then -2 else qfst p sz + 1) (P1 := fun σ => σ = σc) (P2 := fun σ => σ = σm) ?_ hm (fun _ _ e1 e2 => by rw [e1, e2]; exact h)
    refine zwp_bind.mpr (zwp_mono (P := fun r => r = (σc, if qfst p sz = -1 then -2 else qfst p sz + 1)) ?_ (fun r hr => zwp_some.mpr (by rw [hr]; exact ⟨rfl, rfl⟩)))
    unfold d_X6_lastOf
    rw [show k_X6_lastOf_2 zN σc 0 x (1 : Int32) = k_X6_lastOf_2 zN σc 0 x (nI (0 + 1)) by rw [show nI (0 + 1) = (1 : Int32) from nI_one]]
    refine zwp_for (fun f i (_ : Unit) => k_X6_lastOf_2 f σc 0 x (nI (i + 1))) (fun i _ => qany p i = false) _ 0 sz (by omega) (by omega) ?_ ?_ () rfl
    · intro f i _ hi hI IH
      rw [k_X6_lastOf_2, a10, if_neg (nI_nlt (by omega) (by omega)), x6_upAgo a7 a8 a9 a10 (by omega) (by omega), a12 (i + 1) (by omega) (by omega)]
      simp only [Option.bind_some, Nat.add_sub_cancel]
      refine zwp_if (fun e => ?_) (fun e => ?_)
      · exact zwp_some.mpr (by rw [qfst_of hI (show p i = true by rw [hpi]; exact decide_eq_true e) hi, if_neg (ne_m1 (by omega)), nI_1])
      · rw [nI_1]
        exact IH () (by rw [qany, hI, hpi, decide_eq_false e]; rfl)
    · intro f _ hI
      rw [k_X6_lastOf_2, a10, if_pos (nI_lt (by omega) (by omega))]
      exact zwp_some.mpr (by rw [qfst_no hI, if_pos rfl])
