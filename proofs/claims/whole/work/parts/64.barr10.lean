/-! CALLS: barracks, the new camp begins -/
theorem qfst_ix (p : Nat → Bool) (n : Nat) : qfst p n = -1 ∨ ∃ i, i < n ∧ qfst p n = nI i := by
  rcases qfst_cases p n with ⟨-, e⟩ | ⟨i, hi, -, -, e⟩
  · exact Or.inl e
  · exact Or.inr ⟨i, hi, e⟩
theorem qmask_no {p : Nat → Bool} (h : ∀ i, p i = false) : ∀ n, qmask p n = 0
  | 0 => rfl
  | n + 1 => by rw [qmask, qmask_no h n, h n]; simp
/-- what a quarter rests on, read off the Camp c of σ -/
def qE0B (σ : zH) (c bl : Nat) (q : Int32) : Int32 := qfst (fun i => decide (σ.1 16 c i = q)) bl
def qE0 (σ : zH) (c n bl d : Nat) : qE := (fun r i => σ.1 (12 + r) c i, fun q => if qE0B σ c bl q = -1 then 0 else σ.1 17 c (qE0B σ c bl q).toNatClampNeg, qE0B σ c bl, fun k q => qfst (fun i => decide (σ.1 18 c i = nI k) && !decide (q < σ.1 19 c i) && !decide (σ.1 20 c i < q)) d, 0, fun _ _ => false, n)
def qD0 (x : Int32) : qD := fun r i => if r = 3 then -100 else if r = 6 then -1 else if r = 7 ∧ i = 1 then x else 0
theorem rC_e0 {σ σ' : zH} {c c' n bl d : Nat} (hn : n ≤ 12) (hb : bl ≤ 8) (hd : d ≤ 8) (e0 : σ'.1 0 c' 0 = nI n) (e5 : σ'.1 0 c' 5 = nI bl) (e8 : σ'.1 0 c' 8 = nI d) (h1 : ∀ r i, r < 4 → i < n → σ'.1 (12 + r) c' i = σ.1 (12 + r) c i) (h2 : ∀ r i, r < 2 → i < bl → σ'.1 (16 + r) c' i = σ.1 (16 + r) c i) (h3 : ∀ r i, r < 3 → i < d → σ'.1 (18 + r) c' i = σ.1 (18 + r) c i) : rC σ' c' (qE0 σ c n bl d) := by
  have hB : ∀ q, qE0B σ c bl q = qfst (fun i => decide (σ'.1 16 c' i = q)) bl := fun q => qfst_cong (fun i hi => by rw [show σ'.1 16 c' i = σ.1 16 c i from h2 0 i (by omega) hi])
  refine ⟨hn, e0, h1, ⟨bl, hb, e5, hB, fun q => ?_⟩, ⟨d, hd, e8, fun k q => ?_⟩⟩
  · show (if qE0B σ c bl q = -1 then 0 else σ.1 17 c (qE0B σ c bl q).toNatClampNeg) = if qE0B σ c bl q = -1 then 0 else σ'.1 17 c' (qE0B σ c bl q).toNatClampNeg
    rcases qfst_ix (fun i => decide (σ.1 16 c i = q)) bl with e | ⟨i, hi, e⟩
    · have e' : qE0B σ c bl q = -1 := e
      rw [if_pos e', if_pos e']
    · have e' : qE0B σ c bl q = nI i := e
      rw [e', nI_clamp (by omega), show σ'.1 17 c' i = σ.1 17 c i from h2 1 i (by omega) hi]
  · show qfst _ d = qfst _ d
    exact qfst_cong (fun i hi => by rw [show σ'.1 18 c' i = σ.1 18 c i from h3 0 i (by omega) hi, show σ'.1 19 c' i = σ.1 19 c i from h3 1 i (by omega) hi, show σ'.1 20 c' i = σ.1 20 c i from h3 2 i (by omega) hi])
theorem nI_nm1 {i : Nat} (h : i < 2 ^ 31) : ¬ nI i = (-1 : Int32) := fun e => by
  have := congrArg Int32.toInt e
  rw [nI_toInt h, i32_m1] at this
  omega
theorem rMC_e0 {σ τ : zH} {c n bl d : Nat} (hn : n ≤ 12) (hb : bl ≤ 8) (hd : d ≤ 8) (e0 : τ.1 42 0 0 = nI n) (e5 : τ.1 42 0 1 = nI bl) (e8 : τ.1 42 0 2 = nI d) (ef : τ.1 42 0 8 = 0) (ew : τ.1 11 0 29 = -1) (h1 : ∀ r i, r < 4 → i < n → τ.1 (43 + r) 0 i = σ.1 (12 + r) c i) (h2 : ∀ r i, r < 2 → i < bl → τ.1 (47 + r) 0 i = σ.1 (16 + r) c i) (h3 : ∀ r i, r < 3 → i < d → τ.1 (49 + r) 0 i = σ.1 (18 + r) c i) : rMC τ (-1) (qE0 σ c n bl d) := by
  have hB : ∀ q, qE0B σ c bl q = qfst (fun i => !decide (nI i = (-1 : Int32)) && decide (τ.1 47 0 i = q)) bl := fun q => qfst_cong (fun i hi => by rw [show τ.1 47 0 i = σ.1 16 c i from h2 0 i (by omega) hi, decide_eq_false (nI_nm1 (by omega)), Bool.not_false, Bool.true_and])
  refine ⟨hn, e0, h1, ⟨bl, hb, e5, hB, fun q => ?_⟩, ⟨d, hd, e8, fun k q => ?_⟩, ef, ew⟩
  · show (if qE0B σ c bl q = -1 then 0 else σ.1 17 c (qE0B σ c bl q).toNatClampNeg) = if qE0B σ c bl q = -1 then 0 else τ.1 48 0 (qE0B σ c bl q).toNatClampNeg
    rcases qfst_ix (fun i => decide (σ.1 16 c i = q)) bl with e | ⟨i, hi, e⟩
    · have e' : qE0B σ c bl q = -1 := e
      rw [if_pos e', if_pos e']
    · have e' : qE0B σ c bl q = nI i := e
      rw [e', nI_clamp (by omega), show τ.1 48 0 i = σ.1 17 c i from h2 1 i (by omega) hi]
  · show qfst _ d = qfst _ d
    exact qfst_cong (fun i hi => by rw [show τ.1 49 0 i = σ.1 18 c i from h3 0 i (by omega) hi, show τ.1 50 0 i = σ.1 19 c i from h3 1 i (by omega) hi, show τ.1 51 0 i = σ.1 20 c i from h3 2 i (by omega) hi])
theorem qOK_e0 {σ : zH} {c n bl d : Nat} (hn : n ≤ 12) {x : Int32} (hx : 0 ≤ x.toInt) : qOK (qE0 σ c n bl d) (qD0 x) := ⟨fun i _ => ⟨Or.inl rfl, (by decide : 0 ≤ (0 : Int32).toInt), (by decide : (0 : Int32).toInt ≤ 999), (by decide : 0 ≤ (0 : Int32).toInt), (by decide : (0 : Int32).toInt ≤ 999)⟩, hx, (by decide : 0 ≤ (0 : Int32).toInt), hn⟩
theorem qmen_e0 (σ : zH) (c n bl d : Nat) (x : Int32) : qmen (qE0 σ c n bl d) (qD0 x) = qsum (fun i => σ.1 12 c i) n := qsum_cong (fun i _ => if_pos rfl)
theorem x8_begin {σ : zH} {n bl d : Nat} (hn : n ≤ 12) (hb : bl ≤ 8) (hd : d ≤ 8) (e0 : σ.1 0 0 0 = nI n) (e5 : σ.1 0 0 5 = nI bl) (e8 : σ.1 0 0 8 = nI d) {x : Int32} (hx : σ.1 8 0 2 = x) (hx0 : 0 ≤ x.toInt) :
    zwp (d_X8_begin σ 0 0) (fun σ' => zsm (Fs 0) σ σ' ∧ rP 0 σ' 0 (qE0 σ 0 n bl d) (σ.1 0 0 12) (qD0 x) ∧ σ'.1 8 0 12 = 0 ∧ σ'.1 8 0 13 = -2 ∧ (∀ j, j = 0 ∨ j = 5 ∨ j = 8 ∨ j = 12 → σ'.1 0 1 j = σ.1 0 0 j) ∧ (∀ k j, 12 ≤ k → k ≤ 15 → j < 12 → σ'.1 k 1 j = σ.1 k 0 j) ∧ (∀ k j, 16 ≤ k → k ≤ 20 → j < 8 → σ'.1 k 1 j = σ.1 k 0 j)) := by
  unfold d_X8_begin
  refine zwp_to (x0_copyFrom (s := 0 + 1) (t := 0) (by decide) σ) (fun τ h => ?_)
  obtain ⟨z0, a1, a2, a3⟩ := h
  simp only [zlet]
  unfold d_X8_upBits
  generalize hτ1 : uI (uI (uI τ 8 0 1 0) 8 0 3 0) 8 0 4 0 = τ1
  have u1 : ∀ k i j, ¬ (k = 8 ∧ i = 0 ∧ (j = 1 ∨ j = 3 ∨ j = 4)) → τ1.1 k i j = τ.1 k i j := fun k i j hk => by
    rw [← hτ1, uI_1, if_neg (by omega), uI_1, if_neg (by omega), uI_1, if_neg (by omega)]
  have u81 : τ1.1 8 0 1 = 0 := by rw [← hτ1]; simp [uI_1]
  have u83 : τ1.1 8 0 3 = 0 := by rw [← hτ1]; simp [uI_1]
  have u84 : τ1.1 8 0 4 = 0 := by rw [← hτ1]; simp [uI_1]
  have z1 : zsm (Fs 0) σ τ1 := by
    rw [← hτ1]
    have f8 : Fs 0 8 0 := Or.inl (Or.inl ⟨rfl, rfl⟩)
    have z00 : zsm (Fs 0) σ τ := z0.mono (fun k i q => Or.inr q)
    exact ((z00.uI f8 _ _).uI f8 _ _).uI f8 _ _
  have n1 : τ1.1 0 (0 + 1) 0 = nI n := by rw [u1 _ _ _ (by omega), a1 0 (by omega)]; exact e0
  rw [n1, u84, show (0 : Int32) ^^^ (-1) = -1 by decide, show ∀ y : Int32, y &&& (-1) = y from fun y => by simp]
  simp only [Option.bind_some]
  rw [x0_menOf n1 hn]
  simp only [Option.bind_some]
  have hs : qsum (fun i => if bt ((1 : Int32) <<< (nI n &&& 31) - 1) i then τ1.1 12 (0 + 1) i else 0) n = qsum (fun i => σ.1 12 0 i) n := qsum_cong (fun i hi => by
    rw [bt_full _ (by omega) _ (by omega), decide_eq_true hi, if_pos rfl, u1 _ _ _ (by omega), a2 12 i (by omega) (by omega) (by omega)])
  rw [hs]
  generalize hτ2 : uI τ1 8 0 5 (qsum (fun i => σ.1 12 0 i) n) = τ2
  have u2 : ∀ k i j, ¬ (k = 8 ∧ i = 0 ∧ j = 5) → τ2.1 k i j = τ1.1 k i j := fun k i j hk => by rw [← hτ2, uI_1, if_neg (by omega)]
  have u25 : τ2.1 8 0 5 = qsum (fun i => σ.1 12 0 i) n := by rw [← hτ2]; simp [uI_1]
  have z2 : zsm (Fs 0) σ τ2 := by rw [← hτ2]; exact z1.uI (Or.inl (Or.inl ⟨rfl, rfl⟩)) _ _
  rw [show k_X8_begin_40 zN τ2 0 (0 : Int32) = k_X8_begin_40 zN τ2 0 (nI 0) by rw [nI_0]]
  refine zwp_for (fun f i (τ' : zH) => k_X8_begin_40 f τ' 0 (nI i)) (fun i τ' => zsm (Fs 0) σ τ' ∧ (∀ k i' j, ¬ (31 ≤ k ∧ k ≤ 36 ∧ i' = 0) → τ'.1 k i' j = τ2.1 k i' j) ∧ ∀ k j, 31 ≤ k → k ≤ 36 → j < i → τ'.1 k 0 j = if k = 33 then -1000 else if k = 36 then -1 else 0) _ 0 12 (by omega) (by omega) ?_ ?_ τ2 ⟨z2, fun _ _ _ _ => rfl, fun k j _ _ hj => by omega⟩
  · rintro f i τ' hi ⟨h1, h2, h3⟩ IH
    rw [k_X8_begin_40, if_pos (show nI i < (12 : Int32) from nI_lt (b := 12) hi (by omega))]
    simp only [ix_nI hi (show 12 < 2 ^ 31 by omega), zlet, Nat.add_zero]
    rw [nI_1]
    have ff : ∀ k, 31 ≤ k → k ≤ 36 → Fs 0 k 0 := fun k q1 q2 => Or.inl (Or.inr (Or.inl ⟨q1, q2, rfl⟩))
    refine IH _ ⟨(((((h1.uI (ff _ (by omega) (by omega)) _ _).uI (ff _ (by omega) (by omega)) _ _).uI (ff _ (by omega) (by omega)) _ _).uI (ff _ (by omega) (by omega)) _ _).uI (ff _ (by omega) (by omega)) _ _).uI (ff _ (by omega) (by omega)) _ _, fun k i' j hk => ?_, fun k j k1 k2 hj => ?_⟩
    · rw [uI_1, if_neg (by omega), uI_1, if_neg (by omega), uI_1, if_neg (by omega), uI_1, if_neg (by omega), uI_1, if_neg (by omega), uI_1, if_neg (by omega)]
      exact h2 k i' j hk
    · by_cases e : j = i
      · subst e
        have : k = 31 ∨ k = 32 ∨ k = 33 ∨ k = 34 ∨ k = 35 ∨ k = 36 := by omega
        rcases this with rfl | rfl | rfl | rfl | rfl | rfl <;> simp [uI_1]
      · rw [uI_1, if_neg (by omega), uI_1, if_neg (by omega), uI_1, if_neg (by omega), uI_1, if_neg (by omega), uI_1, if_neg (by omega), uI_1, if_neg (by omega)]
        exact h3 k j k1 k2 (by omega)
  · rintro f τ' ⟨h1, h2, h3⟩
    rw [k_X8_begin_40, if_neg (show ¬ nI 12 < (12 : Int32) from nI_nlt (b := 12) (by omega) (by omega))]
    have c0 : ∀ j, τ'.1 0 (0 + 1) j = τ.1 0 (0 + 1) j := fun j => by rw [h2 _ _ _ (by omega), u2 _ _ _ (by omega), u1 _ _ _ (by omega)]
    have ck : ∀ k j, 12 ≤ k → k ≤ 20 → τ'.1 k (0 + 1) j = τ.1 k (0 + 1) j := fun k j q1 q2 => by rw [h2 _ _ _ (by omega), u2 _ _ _ (by omega), u1 _ _ _ (by omega)]
    have c8 : ∀ j, j ≠ 5 → τ'.1 8 0 j = τ1.1 8 0 j := fun j hj => by rw [h2 _ _ _ (by omega), u2 _ _ _ (by omega)]
    have hC : rC τ' (0 + 1) (qE0 σ 0 n bl d) := rC_e0 hn hb hd (by rw [c0, a1 0 (by omega)]; exact e0) (by rw [c0, a1 5 (by omega)]; exact e5) (by rw [c0, a1 8 (by omega)]; exact e8) (fun r i hr hi => by rw [ck _ _ (by omega) (by omega), a2 _ _ (by omega) (by omega) (by omega)]) (fun r i hr hi => by rw [ck _ _ (by omega) (by omega), a3 _ _ (by omega) (by omega) (by omega)]) (fun r i hr hi => by rw [ck _ _ (by omega) (by omega), a3 _ _ (by omega) (by omega) (by omega)])
    have hS : rS (τ'.1 8 0 15) τ' 0 (qE0 σ 0 n bl d) (qD0 x) := by
      refine ⟨by rw [c8 _ (by omega)]; exact u81, by rw [c8 _ (by omega), u1 _ _ _ (by omega), (z0 8 0 (by omega)).1]; exact hx, by rw [c8 _ (by omega)]; exact u83, ?_, ?_, ?_, fun r i hr r0 r3 hi => ?_, fun i hi => Or.inr ⟨?_, rfl⟩⟩
      · rw [c8 _ (by omega), u84]
        exact (qmask_no (fun i => rfl) _).symm
      · rw [h2 _ _ _ (by omega), u25, qmen_e0]
      · exact (Int32.add_zero _).symm
      · have hi' : i < n := hi
        rw [h3 _ _ (by omega) (by omega) (by omega)]
        have : r = 1 ∨ r = 2 ∨ r = 4 ∨ r = 5 ∨ r = 6 := by omega
        rcases this with rfl | rfl | rfl | rfl | rfl <;> rfl
      · have hi' : i < n := hi
        rw [h3 _ _ (by omega) (by omega) (by omega)]; rfl
    refine zwp_to (x8_beginCounts hC hS) (fun υ g => zwp_some.mpr ?_)
    obtain ⟨g1, g2, g3⟩ := g
    rw [show -(qD0 x 7 2) = 0 from by show -(0 : Int32) = 0; decide] at g2
    have g1' : zsm (Fs 0) τ' υ := g1.mono (fun k i q => Or.inl q)
    have v0 : ∀ k, k = 0 ∨ (12 ≤ k ∧ k ≤ 20) → υ.1 k 1 = τ'.1 k 1 := fun k hk => (g1 k 1 (by unfold F8; omega)).1
    have g2 : rS 0 υ 0 (qE0 σ 0 n bl d) (qD0 x) := g2
    refine ⟨h1.tr g1', ⟨hC.mv v0, g2, qOK_e0 hn hx0, ?_⟩, congrArg (fun a => a.1) g3, congrArg (fun a => a.2.1) g3, fun j hj => ?_, fun k j q1 q2 hj => ?_, fun k j q1 q2 hj => ?_⟩
    · rw [show υ.1 0 (0 + 1) = τ'.1 0 (0 + 1) from v0 0 (Or.inl rfl), c0, a1 12 (by omega)]
    · rw [v0 0 (Or.inl rfl), show τ'.1 0 1 j = τ.1 0 1 j from c0 j]; exact a1 j hj
    · rw [v0 k (by omega), show τ'.1 k 1 j = τ.1 k 1 j from ck k j (by omega) (by omega)]; exact a2 k j q1 q2 hj
    · rw [v0 k (by omega), show τ'.1 k 1 j = τ.1 k 1 j from ck k j (by omega) (by omega)]; exact a3 k j q1 q2 hj
theorem x11_lay2 {a b L M : Nat} (hab : a ≠ b) (ha : aT a = 0) (hb : aT b = 0) (hA : aN a = L) (hB : aN b = M) (hLM : L ≤ M) (hM : M < 4000) (σ : zH) : zwp (d_X11_lay σ a 0 b 0) (fun σ' => (∀ k i j, ¬ (k = b ∧ i = 0 ∧ j < L) → σ'.1 k i j = σ.1 k i j) ∧ ∀ j, j < L → σ'.1 b 0 j = σ.1 a 0 j) := by
  unfold d_X11_lay
  rw [nI_c0]
  refine zwp_for (fun f i (σ' : zH) => k_X11_lay_2 f σ' a 0 b 0 (nI i)) (fun i σ' => (∀ k i' j, ¬ (k = b ∧ i' = 0 ∧ j < i) → σ'.1 k i' j = σ.1 k i' j) ∧ ∀ j, j < i → σ'.1 b 0 j = σ.1 a 0 j) _ 0 L (by omega) (by omega) ?_ ?_ σ ⟨fun _ _ _ _ => rfl, fun j hj => by omega⟩
  · rintro f i σ' hi ⟨h2, h3⟩ IH
    rw [k_X11_lay_2, ha, hb, hA, hB]
    show zwp (if nI i < nI L then ix (nI i) L fun j1 => ix (nI i) M fun j3 => zlet (uI σ' b 0 j3 (σ'.1 a 0 j1)) fun σ2 => k_X11_lay_2 f σ2 a 0 b 0 (nI i + 1) else some σ') _
    rw [if_pos (nI_lt hi (by omega)), ix_nI hi (by omega), ix_nI (show i < M by omega) (by omega), nI_1]
    refine zwp_let.mpr (IH _ ⟨fun k i' j hk => ?_, fun j hj => ?_⟩)
    · rw [uI_1, if_neg (by omega)]; exact h2 k i' j (by omega)
    · rw [uI_1]
      by_cases e : j = i
      · rw [if_pos ⟨rfl, rfl, e⟩, e]; exact h2 _ _ _ (by omega)
      · rw [if_neg (by omega)]; exact h3 j (by omega)
  · rintro f σ' ⟨h2, h3⟩
    rw [k_X11_lay_2, ha, hA]
    show zwp (if nI L < nI L then _ else some σ') _
    rw [if_neg (nI_nlt (Nat.le_refl _) (by omega))]
    exact zwp_some.mpr ⟨h2, h3⟩
