/-! CALLS: turned, whole -/
theorem rMP.wf {W w wt : Int32} {σ : zH} {E : qE} {D : qD} (h : rMP W σ w E wt D) (f : Int32) : rMP W (uI σ 42 0 8 f) w (qwf E f) wt D := by
  obtain ⟨⟨c1, c2, c3, ⟨b, c4, c5, c6⟩, ⟨d, c7, c8, c9⟩, c10, c11⟩, ⟨n1, n2, n3, n4⟩, hO, hw⟩ := h
  have u : ∀ k j, ¬ (k = 42 ∧ j = 8) → (uI σ 42 0 8 f).1 k 0 j = σ.1 k 0 j := fun k j hh => by rw [uI_1, if_neg (by omega)]
  have uf : ∀ k, k ≠ 42 → (uI σ 42 0 8 f).1 k 0 = σ.1 k 0 := fun k hk => funext fun j => u k j (by omega)
  refine ⟨⟨c1, by rw [u _ _ (by omega)]; exact c2, fun r i hr hi => by rw [u _ _ (by omega)]; exact c3 r i hr hi, ⟨b, c4, by rw [u _ _ (by omega)]; exact c5, ?_⟩, ⟨d, c7, by rw [u _ _ (by omega)]; exact c8, ?_⟩, by rw [uI_1, if_pos ⟨rfl, rfl, rfl⟩]; rfl, by rw [u _ _ (by omega)]; exact c11⟩, ⟨by rw [u _ _ (by omega)]; exact n1, by rw [u _ _ (by omega)]; exact n2, by rw [u _ _ (by omega)]; exact n3, fun r i hr hi => ?_⟩, hO, by rw [u _ _ (by omega)]; exact hw⟩
  · rw [uf 47 (by omega), uf 48 (by omega)]; exact c6
  · rw [uf 49 (by omega), uf 50 (by omega), uf 51 (by omega)]; exact c9
  · have := mrow_lt hr
    rw [u _ _ (by omega)]; exact n4 r i hr hi
theorem rMP.s2 {W w wt : Int32} {σ τ : zH} {E : qE} {D : qD} (h : rMP W σ w E wt D) (hs : ms2 σ τ) : rMP W τ w E wt D := by
  obtain ⟨hC, hS, hO, hw⟩ := h
  have hn := hC.1
  have k2 := hs.2.1
  refine ⟨?_, ⟨by rw [k2 4 (by omega)]; exact hS.1, by rw [k2 10 (by omega)]; exact hS.2.1, by rw [k2 7 (by omega)]; exact hS.2.2.1, fun r i hr hi => ?_⟩, hO, by rw [k2 3 (by omega)]; exact hw⟩
  · unfold rMC at hC ⊢
    rw [hs.2.2.2 29 (by omega), hs.1 47 (by omega), hs.1 48 (by omega), hs.1 49 (by omega), hs.1 50 (by omega), hs.1 51 (by omega), k2 0 (by omega), k2 1 (by omega), k2 2 (by omega), k2 8 (by omega)]
    exact ⟨hC.1, hC.2.1, fun r i hr hi => by rw [hs.1 (43 + r) (by omega)]; exact hC.2.2.1 r i hr hi, hC.2.2.2⟩
  · have hm := mrow_lt hr
    rw [hs.2.2.1 (mrow r) hm.1 hm.2.1 i (by unfold klen; rw [if_neg hm.2.2]; omega)]
    exact hS.2.2.2 r i hr hi
theorem rML.s2 {σ τ : zH} {r : Nat} {cl : List (Bool × List qop)} (h : rML σ r cl) (hs : ms2 σ τ) : rML τ r cl := h.mv (fun k hk => hs.1 k (by omega))
theorem ms2.rf (σ : zH) : ms2 σ σ := (msame.rf σ).s2
/-- a set has no bits past the companies -/
theorem set_hi {n : Nat} (hn : n ≤ 12) {x : Int32} (h : ¬ b2i (!decide (x < 0) && !decide ((1 : Int32) <<< (nI n &&& 31) - 1 < x)) = 0) : ∀ i, n ≤ i → i < 32 → bt x i = false := by
  intro i hi h32
  rw [b2i_0] at h
  have h1 : ¬ x < 0 := fun e => h (by rw [decide_eq_true e]; rfl)
  have h2 : ¬ (1 : Int32) <<< (nI n &&& 31) - 1 < x := fun e => h (by rw [decide_eq_true e]; simp)
  obtain ⟨b, hb, rfl⟩ := nI_of h1
  have hp := pow_le12 hn
  rw [mask_pow n (by omega), nI_ltI (by omega) hb] at h2
  have h3 := bt_ask (nI b) h32
  rw [pk_shrN hb _ i (s_l i h32), Nat.div_eq_of_lt (Nat.lt_of_lt_of_le (show b < 2 ^ n by omega) (Nat.pow_le_pow_right (by omega) hi)), nI_0] at h3
  cases hbt : bt (nI b) i with
  | false => rfl
  | true => rw [hbt] at h3; exact absurd h3 (by decide)
theorem up_set {n : Nat} (hn : n ≤ 12) {x : Int32} (hx : ∀ i, n ≤ i → i < 32 → bt x i = false) (D : qD) : (qmask (qup D) n = ((1 : Int32) <<< (nI n &&& 31) - 1) &&& (x ^^^ -1)) ↔ qmask (qdown D) n = x := by
  have e : ∀ i, qup D i = !qdown D i := fun i => by unfold qup qdown; simp
  constructor
  · intro h
    refine b_ext (fun i hi => ?_)
    have g : bt (qmask (qup D) n) i = bt (((1 : Int32) <<< (nI n &&& 31) - 1) &&& (x ^^^ -1)) i := by rw [h]
    rw [bt_mask _ _ (by omega) i hi, b_and, bt_full _ (by omega) i hi, bt_not _ hi, e] at g
    rw [bt_mask _ _ (by omega) i hi]
    by_cases hin : i < n
    · rw [decide_eq_true hin] at g ⊢
      cases hd : qdown D i <;> cases hb : bt x i <;> rw [hd, hb] at g <;> simp at g ⊢
    · rw [decide_eq_false hin, hx i (by omega) hi]; rfl
  · intro h
    refine b_ext (fun i hi => ?_)
    have g : bt (qmask (qdown D) n) i = bt x i := by rw [h]
    rw [bt_mask _ _ (by omega) i hi] at g
    rw [bt_mask _ _ (by omega) i hi, b_and, bt_full _ (by omega) i hi, bt_not _ hi, e, ← g]
    by_cases hin : i < n
    · rw [decide_eq_true hin]; simp
    · rw [decide_eq_false hin]; simp
theorem m_turns {σm : zH} {r : Nat} {E : qE} {wt : Int32} {D : qD} {cl : List (Bool × List qop)} (hE : qeL E = qlaw cl) (hL : rML σm r cl) (h : rMP 0 σm (-1) E wt D) (hd : (D 7 0).toInt ≤ 9999) (set : Int32) (hset : ∀ i, qeN E ≤ i → i < 32 → bt set i = false) (T b l : Nat) (hT : T ≤ 96) (hb : b < 48) :
    zwp (d_X11_turns σm (nI r) set (nI T) (nI b) (nI l)) (fun p => ms2 σm p.1 ∧ p.2 = b2i (tok E D set T b l) ∧ p.1.1 11 0 60 = tfa E wt D T b l) := by
  have h00 := h.2.2.1.2.2.1
  unfold d_X11_turns
  obtain ⟨σ1, f1, gK, gP, g42⟩ := x11_keepsP h
  rw [f1]
  simp only [Option.bind_some]
  rw [show k_X11_turns_7 j_X11_turns_57 zN σ1 (nI r) set (nI T) (nI b) (nI l) (0 : Int32) = k_X11_turns_7 j_X11_turns_57 zN σ1 (nI r) set (nI T) (nI b) (nI l) (nI 0) by rw [nI_0]]
  refine zwp_for (fun f k (τ : zH) => k_X11_turns_7 j_X11_turns_57 f τ (nI r) set (nI T) (nI b) (nI l) (nI k)) (fun k τ => rK σm τ ∧ rMP 0 τ (-1) (if b < k then tE E D b l else E) wt (tD E D b l k) ∧ τ.1 42 0 5 = σm.1 42 0 5 + (tC E wt D b l k).1) _ 0 T (by omega) (by omega) ?_ ?_ σ1 ⟨gK, ?_, ?_⟩
  · rintro f k τ hk ⟨i1, i2, i3⟩ IH
    rw [k_X11_turns_7, if_pos (nI_lt hk (by omega))]
    have ht : (tD E D b l k 7 0).toInt = (D 7 0).toInt + k := by
      unfold tD
      have a := qrun_70 E D (min k b) (by omega) (by omega)
      rw [qrun_70 _ _ _ (by omega) (by omega), a]
      omega
    -- a quarter from the state with the right feast
    have hq : ∀ (υ : zH) (F : Int32), υ = uI τ 42 0 8 F → rMP 0 υ (-1) (if b < k + 1 then tE E D b l else E) wt (tD E D b l k) → zwp ((d_X11_quarter υ (nI r)).bind fun σ2 => (k_X11_turns_7 j_X11_turns_57 f) σ2 (nI r) set (nI T) (nI b) (nI l) (nI k + (1 : Int32))) (fun p => ms2 σm p.1 ∧ p.2 = b2i (tok E D set T b l) ∧ p.1.1 11 0 60 = tfa E wt D T b l) := by
      intro υ F hυ hP
      have kυ : rK σm υ := by
        refine ⟨⟨fun j hj => by rw [hυ, uI_1, if_neg (by omega)]; exact i1.1.1 j hj, fun k a b j hj => by rw [hυ, uI_1, if_neg (by omega)]; exact i1.1.2 k a b j hj⟩, fun k i hk => ?_⟩
        have c := i1.2 k i hk
        refine ⟨?_, by rw [hυ]; exact c.2⟩
        rw [← c.1]
        exact funext fun j => by rw [hυ, uI_1, if_neg (by omega)]
      have hE' : qeL (if b < k + 1 then tE E D b l else E) = qlaw cl := by
        split
        · exact hE
        · exact hE
      obtain ⟨υ2, f2, w2, q2, m2⟩ := x11_q hE' (hL.K kυ) hP (by omega)
      have hD : qqu (if b < k + 1 then tE E D b l else E) (tD E D b l k) = tD E D b l (k + 1) := by
        unfold tD
        by_cases hbk : b < k + 1
        · rw [if_pos hbk, show k + 1 - b = (k - b) + 1 by omega, show min (k + 1) b = min k b by omega]
          rw [qrun]
        · rw [if_neg hbk, show k - b = 0 by omega, show k + 1 - b = 0 by omega, show min (k + 1) b = min k b + 1 by omega]
          rw [qrun, qrun, qrun]
      rw [hD] at q2 m2
      have hC : tC E wt D b l (k + 1) = qst wt (qmen E (tD E D b l (k + 1))) (tD E D b l k 7 0) (tC E wt D b l k) := by
        unfold tC tD
        by_cases hbk : b < k + 1
        · rw [show k + 1 - b = (k - b) + 1 by omega, show min (k + 1) b = min k b by omega]
          rw [qstn]
          rfl
        · rw [show k - b = 0 by omega, show k + 1 - b = 0 by omega, show min (k + 1) b = min k b + 1 by omega]
          rw [qstn, qstn, qstn, qrun, qrun]
      rw [f2]
      simp only [Option.bind_some]
      rw [nI_1]
      refine IH υ2 ⟨kυ.step w2, q2, ?_⟩
      have m5 := m2.1
      have hm : qmen (if b < k + 1 then tE E D b l else E) (tD E D b l (k + 1)) = qmen E (tD E D b l (k + 1)) := by split <;> rfl
      rw [hm, show υ.1 42 0 5 = τ.1 42 0 5 by rw [hυ, uI_1, if_neg (by omega)], i3] at m5
      rw [m5, hC]
      unfold qst
      dsimp only
      split
      · rw [Int32.add_assoc]
      · rfl
    have hix : ∀ F : Nat → Option (zH × Int32), ix (8 : Int32) 11 F = F 8 := fun F => by rw [show (8 : Int32) = nI 8 from rfl, ix_nI (by omega) (by omega)]
    refine zwp_if (fun e => ?_) (fun e => ?_)
    · have e2 : k = b := (nI_eq (by omega) (by omega)).mp e
      unfold j_X11_turns_45
      rw [hix]
      refine zwp_let.mpr (hq _ _ rfl ?_)
      rw [if_neg (by omega)] at i2
      have h4 : τ.1 42 0 4 = qrun E b D 7 0 := by
        rw [i2.2.1.1]
        unfold tD
        rw [e2, Nat.sub_self, Nat.min_self, qrun]
      rw [if_pos (by omega), h4]
      exact i2.wf _
    · have e2 : ¬ k = b := fun q => e (by rw [q])
      unfold j_X11_turns_45
      rw [hix]
      refine zwp_let.mpr (hq _ _ rfl ?_)
      have hs : uI τ 42 0 8 (τ.1 42 0 8) = τ := by
        refine Prod.ext (funext fun k => funext fun i => funext fun j => ?_) rfl
        rw [uI_1]
        split
        · rename_i hh; rw [hh.1, hh.2.1, hh.2.2]
        · rfl
      rw [hs]
      by_cases hbk : b < k
      · rw [if_pos hbk] at i2
        rw [if_pos (by omega)]; exact i2
      · rw [if_neg hbk] at i2
        rw [if_neg (by omega)]; exact i2
  · rintro f τ ⟨i1, i2, i3⟩
    rw [k_X11_turns_7, if_neg (nI_nlt (Nat.le_refl _) (by omega))]
    unfold j_X11_turns_57
    have hn : qeN (if b < T then tE E D b l else E) = qeN E := by split <;> rfl
    have hn12 := h.1.1
    rw [x11_upSet i2.1 i2.2.1]
    simp only [Option.bind_some]
    rw [i2.1.2.1, hn]
    have h5 : τ.1 42 0 5 - τ.1 80 0 5 = tfa E wt D T b l := by
      rw [i3, i1.1.1 5 (by omega), Int32.add_comm, Int32.add_sub_cancel]; rfl
    have hgo : ∀ bb, bb = tok E D set T b l → zwp (j_X11_turns_83 τ (b2i bb)) (fun p => ms2 σm p.1 ∧ p.2 = b2i (tok E D set T b l) ∧ p.1.1 11 0 60 = tfa E wt D T b l) := fun bb hbb => by
      unfold j_X11_turns_83
      rw [h5]
      refine zwp_let.mpr ?_
      have kυ : kept (uI τ 11 0 60 (tfa E wt D T b l)) σm := ⟨fun j hj => by rw [uI_1, if_neg (by omega)]; exact i1.1.1 j hj, fun k a b j hj => by rw [uI_1, if_neg (by omega)]; exact i1.1.2 k a b j hj⟩
      refine zwp_to (x11_laysBack kυ) (fun υ g => ?_)
      obtain ⟨g1, g2, g3, g4⟩ := g
      rw [tv_01 (b2i_01 bb)]
      have oth : ∀ k j, ¬ (k = 42 ∨ (62 ≤ k ∧ k ≤ 69) ∨ (78 ≤ k ∧ k ≤ 89)) → ¬ (k = 11 ∧ j = 60) → υ.1 k 0 j = σm.1 k 0 j := fun k j hk hj => by
        rw [g2 k 0 j (by omega), uI_1, if_neg (by omega), (i1.2 k 0 hk).1]
      refine zwp_some.mpr ⟨⟨fun k hk => funext fun j => oth k j (by omega) (by omega), g3, g4, fun j hj => oth 11 j (by omega) (by omega)⟩, by rw [hbb], ?_⟩
      show υ.1 11 0 60 = _
      rw [g2 11 0 60 (by omega), uI_1, if_pos ⟨rfl, rfl, rfl⟩]
    refine zwp_if (fun e => ?_) (fun e => ?_)
    · rw [up_set (by omega) hset] at e
      exact hgo true (decide_eq_true e).symm
    · rw [up_set (by omega) hset] at e
      exact hgo false (decide_eq_false e).symm
  · rw [if_neg (by omega)]
    unfold tD
    rw [Nat.zero_sub, Nat.zero_min, qrun, qrun]; exact gP
  · rw [g42]
    unfold tC
    rw [Nat.zero_sub, Nat.zero_min, qstn, qstn]
    exact (Int32.add_zero _).symm
theorem r_turned {σc σm : zH} (h : qR σc σm) (x s y w : Int32) : zrel (d_X10_turned σc x s y w) (d_X11_turned σm x s y w) qR := by
  obtain ⟨L, l1, l2, l3, -⟩ := h.2.1
  obtain ⟨E0, wt0, D0, v0⟩ := h.2.2.1
  unfold d_X10_turned d_X11_turned
  rcases num_case x L (by omega) with hx | ⟨r, hr, rfl⟩
  · rw [x10_noLaw l2 hx, x11_noLaw l3 l1 hx]
    exact zrel_same h
  rw [x10_isLaw l2 l1 hr, x11_isLaw l3 l1 hr]
  simp only [Option.bind_some]
  rw [if_neg i10, if_neg i10]
  obtain ⟨E, wt, D, cl, hE, c1, c2, v⟩ := h.law l2 l1 hr
  have c0 : σc.1 0 1 0 = nI (qeN E) := v.1.1.2.1
  have m0 : σm.1 42 0 0 = nI (qeN E) := v.2.1.1.2.1
  have hn := v.1.1.1
  rw [x10_are c0 hn, x11_inset m0]
  simp only [Option.bind_some]
  by_cases hs : b2i (!decide (s < 0) && !decide ((1 : Int32) <<< (nI (qeN E) &&& 31) - 1 < s)) = 0
  · rw [if_pos hs, if_pos hs]; exact zrel_same h
  rw [if_neg hs, if_neg hs]
  have hset := set_hi hn hs
  by_cases h1 : y < 1
  · rw [if_pos h1, in_0 (A := 1) (B := 96) 1 96 rfl rfl (Or.inl h1)]
    exact zrel_same h
  rw [if_neg h1]
  by_cases h2 : (96 : Int32) < y
  · rw [if_pos h2, in_0 (A := 1) (B := 96) 1 96 rfl rfl (Or.inr h2)]
    exact zrel_same h
  rw [if_neg h2, in_1 (A := 1) (B := 96) 1 96 rfl rfl h1 h2]
  simp only [Option.bind_some]
  rw [if_neg i10]
  by_cases h3 : w < 0
  · rw [if_pos h3, in_0 (A := 0) (B := 2) 0 2 rfl rfl (Or.inl h3)]
    exact zrel_same h
  rw [if_neg h3]
  by_cases h4 : (2 : Int32) < w
  · rw [if_pos h4, in_0 (A := 0) (B := 2) 0 2 rfl rfl (Or.inr h4)]
    exact zrel_same h
  rw [if_neg h4, in_1 (A := 0) (B := 2) 0 2 rfl rfl h3 h4]
  simp only [Option.bind_some]
  rw [if_neg i10]
  obtain ⟨T, hT1, hT, rfl⟩ := i32_lt1 h1
  obtain ⟨kw, hk, rfl⟩ := nI_of h3
  rw [show (96 : Int32) = nI 96 from rfl, nI_ltI (by omega) hT] at h2
  rw [show (2 : Int32) = nI 2 from rfl, nI_ltI (by omega) hk] at h4
  have hd := v.2.2.2.2.2.1
  obtain ⟨σ', e1, z1, best, t1⟩ := c_turned hE c1 v.1 hd s T (by omega)
  rw [ix_nI (by omega) (by omega), Nat.zero_add, e1]
  simp only [Option.bind_some]
  rw [ix_nI (by omega) (by omega)]
  refine zrel_of (P1 := fun σ => zsm Gc σc σ) (P2 := fun τ => ms2 σm τ) (v := σ'.1 22 0 kw) (zwp_some.mpr ⟨z1, rfl⟩) ?_ (fun a b p q => (h.c p).m q)
  rw [show k_X11_turned_58 j_X11_turned_89 zN σm (nI r) s (nI T) (nI kw) (1 : Int32) = k_X11_turned_58 j_X11_turned_89 zN σm (nI r) s (nI T) (nI kw) (nI 1) by rw [nI_one]]
  refine zwp_for (fun f l (τ : zH) => k_X11_turned_58 j_X11_turned_89 f τ (nI r) s (nI T) (nI kw) (nI l)) (fun l τ => ms2 σm τ ∧ 1 ≤ l ∧ ∀ l' b', 1 ≤ l' → l' < l → b' < 48 → tok E D s T b' l' = false) _ 1 17 (by omega) (by omega) ?_ ?_ σm ⟨ms2.rf σm, Nat.le_refl _, fun l' b' a b => by omega⟩
  · rintro f l τ hl ⟨i1, i2, i3⟩ IH
    rw [k_X11_turned_58, if_neg (show ¬ (16 : Int32) < nI l from nI_nlt (a := 16) (by omega) (by omega))]
    rw [show k_X11_turned_68 j_X11_turned_89 (j_X11_turned_121 (k_X11_turned_58 j_X11_turned_89 f)) zN τ (nI r) s (nI T) (nI kw) (nI l) (0 : Int32) = k_X11_turned_68 j_X11_turned_89 (j_X11_turned_121 (k_X11_turned_58 j_X11_turned_89 f)) zN τ (nI r) s (nI T) (nI kw) (nI l) (nI 0) by rw [nI_0]]
    refine zwp_for (fun f' b (υ : zH) => k_X11_turned_68 j_X11_turned_89 (j_X11_turned_121 (k_X11_turned_58 j_X11_turned_89 f)) f' υ (nI r) s (nI T) (nI kw) (nI l) (nI b)) (fun b υ => ms2 σm υ ∧ ∀ b', b' < b → tok E D s T b' l = false) _ 0 48 (by omega) (by omega) ?_ ?_ τ ⟨i1, fun b' hb' => by omega⟩
    · rintro f' b υ hb ⟨j1, j2⟩ IH2
      rw [k_X11_turned_68, if_pos (show nI b < (48 : Int32) from nI_lt (b := 48) hb (by omega))]
      obtain ⟨⟨υ1, vv⟩, f1, s1, e2, e3⟩ := m_turns hE (c2.s2 j1) (v.2.1.s2 j1) hd s hset T b l (by omega) hb
      dsimp only at s1 e2 e3
      subst e2
      rw [f1]
      simp only [Option.bind_some]
      cases hk0 : tok E D s T b l with
      | false =>
        rw [if_pos (show b2i false = 0 from rfl), nI_1]
        refine IH2 υ1 ⟨j1.tr s1, fun b' hb' => ?_⟩
        by_cases e : b' = b
        · rw [e]; exact hk0
        · exact j2 b' (by omega)
      | true =>
        rw [if_neg (show ¬ b2i true = 0 by decide)]
        rcases t1.2 with ⟨eb, -⟩ | ⟨b0, g1, g2, g3, g4, g5, g6, g7, g8⟩
        · have := t1.1 b l i2 (by omega) hb (Or.inl hb)
          rw [hk0] at this
          cases this
        · have hlb : best = l := by
            by_cases q1 : l < best
            · have := t1.1 b l i2 q1 hb (Or.inl hb)
              rw [hk0] at this; cases this
            · by_cases q2 : best < l
              · have := i3 best b0 g2 q2 g1
                rw [g4] at this; cases this
              · omega
          subst hlb
          have hbb : b0 = b := by
            by_cases q1 : b < b0
            · have := g5 b q1
              rw [hk0] at this; cases this
            · by_cases q2 : b0 < b
              · have := j2 b0 q2
                rw [g4] at this; cases this
              · omega
          subst hbb
          unfold j_X11_turned_89
          have : kw = 0 ∨ kw = 1 ∨ kw = 2 := by omega
          rcases this with rfl | rfl | rfl
          · rw [if_pos nI_0]; exact zwp_some.mpr ⟨j1.tr s1, g6.symm⟩
          · rw [if_neg (by decide), if_pos nI_one]; exact zwp_some.mpr ⟨j1.tr s1, g7.symm⟩
          · rw [if_neg (by decide), if_neg (by decide)]
            exact zwp_some.mpr ⟨j1.tr s1, by show υ1.1 11 0 60 = _; rw [e3, g8]⟩
    · rintro f' υ ⟨j1, j2⟩
      rw [k_X11_turned_68, if_neg (show ¬ nI 48 < (48 : Int32) from nI_nlt (b := 48) (by omega) (by omega))]
      unfold j_X11_turned_121
      rw [nI_1]
      refine IH υ ⟨j1, by omega, fun l' b' h1 h2 h3 => ?_⟩
      by_cases e : l' = l
      · rw [e]; exact j2 b' h3
      · exact i3 l' b' h1 (by omega) h3
  · rintro f τ ⟨i1, i2, i3⟩
    rw [k_X11_turned_58, if_pos (show (16 : Int32) < nI 17 from nI_lt (a := 16) (by omega) (by omega))]
    refine zwp_some.mpr ⟨i1, ?_⟩
    rcases t1.2 with ⟨-, g0, g1, g2⟩ | ⟨b0, g1, g2, g3, g4, -⟩
    · have : kw = 0 ∨ kw = 1 ∨ kw = 2 := by omega
      rcases this with rfl | rfl | rfl
      · exact g0.symm
      · exact g1.symm
      · exact g2.symm
    · have := i3 best b0 g2 (by omega) g1
      rw [g4] at this; cases this
