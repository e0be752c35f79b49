/-! CALLS: barracks, the parts of a clause -/
def Fb (k i : Nat) : Prop := k = 7 ∨ k = 1 ∨ ((k = 0 ∨ (12 ≤ k ∧ k ≤ 20)) ∧ i = 0)
def Fbm (k j : Nat) : Prop := (52 ≤ k ∧ k ≤ 61) ∨ (k = 11 ∧ (j = 31 ∨ j = 32 ∨ j = 35 ∨ j = 36 ∨ j = 37 ∨ j = 40))
/-- both read the text b of t bytes, have changed only what a barracks' text changes, and stand at p with the fault f -/
def ST (b : Nat → Int32) (t : Nat) (σc0 σm0 σc σm : zH) (f : Int32) (p : Nat) : Prop :=
  txc b t σc ∧ txm b t σm ∧ zsm Fb σc0 σc ∧ (∀ k j, ¬ Fbm k j → σm.1 k 0 j = σm0.1 k 0 j) ∧ σc.1 7 0 5 = f ∧ σm.1 11 0 32 = f ∧ σm.1 11 0 31 = nI p ∧ p ≤ t ∧ (f = 0 → σc.1 7 0 1 = nI p) ∧ 0 ≤ f.toInt
section
variable {b : Nat → Int32} {t : Nat} {σc0 σm0 σc σm : zH} {f : Int32} {p : Nat}
theorem ST.num (h : ST b t σc0 σm0 σc σm f p) (lo hi lo' hi' : Int32) (hlo : f = 0 → lo' = lo ∧ hi' = hi ∧ 0 ≤ lo.toInt) :
    ∃ σc' vc σm' vm f' p', d_X1_number σc lo hi = some (σc', vc) ∧ d_X11_amount σm lo' hi' = some (σm', vm) ∧ ST b t σc0 σm0 σc' σm' f' p' ∧ (∀ k i j, k ≠ 7 → σc'.1 k i j = σc.1 k i j) ∧ (∀ k i j, ¬ (k = 11 ∧ (j = 31 ∨ j = 32)) → σm'.1 k i j = σm.1 k i j) ∧ (f' = 0 → f = 0 ∧ vc = vm ∧ lo ≤ vc ∧ vc ≤ hi) := by
  obtain ⟨h1, h2, h3, h4, h5, h6, h7, h8, h9, h10⟩ := h
  obtain ⟨σc', vc, σm', vm, p', f', a1, a2, a3, a4, a5, a6, a7, a8, a9, a10⟩ := num_both h1 h2 h5 h6 h7 h8 h9 lo hi lo' hi' hlo
  refine ⟨σc', vc, σm', vm, f', p', a1, a2, ⟨a3.tx h1, a4.tx h2, h3.tr (a3.mono (fun k i q => Or.inl q)), fun k j hk => ?_, a5, a6, a7, a8, fun e => (a9 e).2.1, a10 h10⟩, fun k i j hk => by rw [(a3 k i hk).1], fun k i j hk => a4.2 k i j (by omega), fun e => ⟨(a9 e).1, (a9 e).2.2⟩⟩
  rw [a4.2 k 0 j (fun q => hk (Or.inr ⟨q.1, by omega⟩))]
  exact h4 k j hk
theorem ST.u (h : ST b t σc0 σm0 σc σm f p) {k j k' j' : Nat} (hk : k = 0 ∨ (12 ≤ k ∧ k ≤ 20)) (x : Int32) (hk' : 52 ≤ k' ∧ k' ≤ 61) (y : Int32) : ST b t σc0 σm0 (uI σc k 0 j x) (uI σm k' 0 j' y) f p := by
  obtain ⟨h1, h2, h3, h4, h5, h6, h7, h8, h9, h10⟩ := h
  have uc : ∀ kk jj, kk ≠ k → (uI σc k 0 j x).1 kk 0 jj = σc.1 kk 0 jj := fun kk jj q => by rw [uI_1, if_neg (by omega)]
  have um : ∀ kk jj, kk ≠ k' → (uI σm k' 0 j' y).1 kk 0 jj = σm.1 kk 0 jj := fun kk jj q => by rw [uI_1, if_neg (by omega)]
  refine ⟨h1.mv (uc 9 1 (by omega)) (funext fun i => uc 37 i (by omega)), h2.mv (um 11 30 (by omega)) (funext fun i => um 70 i (by omega)), h3.uI (Or.inr (Or.inr ⟨hk, rfl⟩)) j x, fun kk jj hkk => ?_, by rw [uc 7 5 (by omega)]; exact h5, by rw [um 11 32 (by omega)]; exact h6, by rw [um 11 31 (by omega)]; exact h7, h8, fun e => by rw [uc 7 1 (by omega)]; exact h9 e, h10⟩
  rw [um kk jj (fun q => hkk (Or.inl (by rw [q]; exact hk')))]
  exact h4 kk jj hkk
theorem ST.uc (h : ST b t σc0 σm0 σc σm f p) {k j : Nat} (hk : k = 0 ∨ k = 1 ∨ (12 ≤ k ∧ k ≤ 20)) (x : Int32) : ST b t σc0 σm0 (uI σc k 0 j x) σm f p := by
  obtain ⟨h1, h2, h3, h4, h5, h6, h7, h8, h9, h10⟩ := h
  have uc : ∀ kk jj, kk ≠ k → (uI σc k 0 j x).1 kk 0 jj = σc.1 kk 0 jj := fun kk jj q => by rw [uI_1, if_neg (by omega)]
  exact ⟨h1.mv (uc 9 1 (by omega)) (funext fun i => uc 37 i (by omega)), h2, h3.uI (by unfold Fb; omega) j x, h4, by rw [uc 7 5 (by omega)]; exact h5, h6, h7, h8, fun e => by rw [uc 7 1 (by omega)]; exact h9 e, h10⟩
theorem ST.um (h : ST b t σc0 σm0 σc σm f p) {k j : Nat} (hk : Fbm k j) (hk2 : ¬ (k = 11 ∧ (j = 31 ∨ j = 32))) (x : Int32) : ST b t σc0 σm0 σc (uI σm k 0 j x) f p := by
  obtain ⟨h1, h2, h3, h4, h5, h6, h7, h8, h9, h10⟩ := h
  have um : ∀ kk jj, ¬ (kk = k ∧ jj = j) → (uI σm k 0 j x).1 kk 0 jj = σm.1 kk 0 jj := fun kk jj q => by rw [uI_1, if_neg (by omega)]
  unfold Fbm at hk
  refine ⟨h1, h2.mv (um 11 30 (by omega)) (funext fun i => um 70 i (by omega)), h3, fun kk jj hkk => ?_, h5, by rw [um 11 32 (by omega)]; exact h6, by rw [um 11 31 (by omega)]; exact h7, h8, h9, h10⟩
  rw [um kk jj (fun q => hkk (by rw [q.1, q.2]; exact hk))]
  exact h4 kk jj hkk
/-- the camp read so far -/
def BB (σc σm : zH) (n bl d : Nat) : Prop := σc.1 1 0 1 = 0 ∧ (n ≤ 12 ∧ bl ≤ 8 ∧ d ≤ 8) ∧ (σc.1 0 0 0 = nI n ∧ σc.1 0 0 5 = nI bl ∧ σc.1 0 0 8 = nI d) ∧ (σm.1 52 0 0 = nI n ∧ σm.1 52 0 1 = nI bl ∧ σm.1 52 0 2 = nI d) ∧ σc.1 0 0 12 = σm.1 52 0 3 ∧ (∃ w : Bool, σc.1 1 0 3 = b2i w ∧ σm.1 11 0 40 = b2i w) ∧
  (∀ r i, r < 4 → i < n → σc.1 (12 + r) 0 i = σm.1 (53 + r) 0 i) ∧ (∀ i, i < n → 0 ≤ (σc.1 12 0 i).toInt ∧ (σc.1 12 0 i).toInt ≤ 9999) ∧ (∀ r i, r < 2 → i < bl → σc.1 (16 + r) 0 i = σm.1 (57 + r) 0 i) ∧ (∀ r i, r < 3 → i < d → σc.1 (18 + r) 0 i = σm.1 (59 + r) 0 i)
theorem ix_0 {α : Type} {n : Nat} (hn : 0 < n) (h : n < 2 ^ 31) (F : Nat → Option α) : ix (0 : Int32) n F = F 0 := by rw [nI_c0, ix_nI hn h]
theorem x1_few {σ : zH} (h : σ.1 1 0 2 = 0) : d_X1_isOneTooMany σ (0 : Int32) = some (σ, 0) := by
  unfold d_X1_isOneTooMany j_X1_isOneTooMany_16
  rw [if_pos rfl, if_pos h, if_pos rfl, tv_01 (Or.inl rfl)]
theorem b_company (h : ST b t σc0 σm0 σc σm f p) {n bl d : Nat} (B : BB σc σm n bl d) (hn : n < 12) (h2 : σc.1 1 0 2 = 0) :
    ∃ σc' σm' f' p', j_X1_readCompany_20 σc (nI n) (0 : Int32) = some σc' ∧ d_X11_barracksPart σm (0 : Int32) = some σm' ∧ ST b t σc0 σm0 σc' σm' f' p' ∧ (f' = 0 → BB σc' σm' (n + 1) bl d) := by
  obtain ⟨b1, ⟨b2, b3, b4⟩, ⟨b5, b6, b7⟩, ⟨b8, b9, b10⟩, b11, ⟨w, b12, b13⟩, b14, b15, b16, b17⟩ := B
  unfold j_X1_readCompany_20 d_X11_barracksPart
  rw [x1_few h2]
  simp only [Option.bind_some, if_true, zlet]
  rw [b1, ix_0 (by omega) (by omega), ix_0 (by omega) (by omega), b8]
  simp only [ix_nI hn (show 12 < 2 ^ 31 by omega)]
  obtain ⟨c1, v1, m1, u1, f1, p1, e1, g1, s1, zc1, zm1, o1⟩ := h.num 1 99 1 99 (fun _ => ⟨rfl, rfl, by decide⟩)
  rw [e1, g1]
  simp only [Option.bind_some]
  have s1' := s1.u (k := 12) (j := n) (k' := 53) (j' := n) (by omega) v1 (by omega) u1
  have i1 : (uI c1 12 0 n v1).1 1 0 1 = 0 := by rw [uI_1, if_neg (by omega), zc1 _ _ _ (by omega)]; exact b1
  simp only [Nat.add_zero]
  rw [i1, ix_0 (by omega) (by omega)]
  obtain ⟨c2, v2, m2, u2, f2, p2, e2, g2, s2, zc2, zm2', o2⟩ := s1'.num 0 3 0 3 (fun _ => ⟨rfl, rfl, by decide⟩)
  rw [e2, g2]
  simp only [Option.bind_some]
  have s2' := s2.u (k := 13) (j := n) (k' := 54) (j' := n) (by omega) v2 (by omega) u2
  have i2 : (uI c2 13 0 n v2).1 1 0 1 = 0 := by rw [uI_1, if_neg (by omega), zc2 _ _ _ (by omega)]; exact i1
  rw [i2, ix_0 (by omega) (by omega)]
  obtain ⟨c3, v3, m3, u3, f3, p3, e3, g3, s3, zc3, zm3, o3⟩ := s2'.num 0 11 0 11 (fun _ => ⟨rfl, rfl, by decide⟩)
  rw [e3, g3]
  simp only [Option.bind_some]
  have s3' := s3.u (k := 14) (j := n) (k' := 55) (j' := n) (by omega) v3 (by omega) u3
  have i3 : (uI c3 14 0 n v3).1 1 0 1 = 0 := by rw [uI_1, if_neg (by omega), zc3 _ _ _ (by omega)]; exact i2
  rw [i3, ix_0 (by omega) (by omega)]
  obtain ⟨c4, v4, m4, u4, f4, p4, e4, g4, s4, zc4, zm4, o4⟩ := s3'.num 0 100 0 100 (fun _ => ⟨rfl, rfl, by decide⟩)
  rw [e4, g4]
  simp only [Option.bind_some]
  have s4' := s4.u (k := 15) (j := n) (k' := 56) (j' := n) (by omega) v4 (by omega) u4
  have i4 : (uI c4 15 0 n v4).1 1 0 1 = 0 := by rw [uI_1, if_neg (by omega), zc4 _ _ _ (by omega)]; exact i3
  rw [i4, ix_0 (by omega) (by omega)]
  unfold j_X11_barracksPart_176 j_X11_barracksPart_193
  rw [ix_0 (by omega) (by omega), if_pos (show (0 : Int32) < 3 by decide), ix_0 (by omega) (by omega)]
  simp only [zlet]
  -- the cells at the end
  have cc : ∀ k j, k ≠ 7 → (uI c4 15 0 n v4).1 k 0 j = if k = 15 ∧ j = n then v4 else if k = 14 ∧ j = n then v3 else if k = 13 ∧ j = n then v2 else if k = 12 ∧ j = n then v1 else σc.1 k 0 j := fun k j hk => by
    rw [uI_1, zc4 _ _ _ hk, uI_1, zc3 _ _ _ hk, uI_1, zc2 _ _ _ hk, uI_1, zc1 _ _ _ hk]
    simp only [true_and]
  have mm : ∀ k j, ¬ (k = 11 ∧ (j = 31 ∨ j = 32)) → (uI m4 56 0 n u4).1 k 0 j = if k = 56 ∧ j = n then u4 else if k = 55 ∧ j = n then u3 else if k = 54 ∧ j = n then u2 else if k = 53 ∧ j = n then u1 else σm.1 k 0 j := fun k j hk => by
    rw [uI_1, zm4 _ _ _ hk, uI_1, zm3 _ _ _ hk, uI_1, zm2' _ _ _ hk, uI_1, zm1 _ _ _ hk]
    simp only [true_and]
  have e52 : (uI m4 56 0 n u4).1 52 0 0 = nI n := by rw [mm _ _ (by omega), if_neg (by omega), if_neg (by omega), if_neg (by omega), if_neg (by omega)]; exact b8
  rw [e52, nI_1]
  have s5 := s4'.u (k := 0) (j := 0) (k' := 52) (j' := 0) (by omega) (nI (n + 1)) (by omega) (nI (n + 1))
  refine ⟨_, _, f4, p4, rfl, rfl, s5, fun e => ?_⟩
  obtain ⟨q3, w4, -, -⟩ := o4 e
  obtain ⟨q2, w3, -, -⟩ := o3 q3
  obtain ⟨q1, w2, -, -⟩ := o2 q2
  obtain ⟨q0, w1, lo1, hi1⟩ := o1 q1
  have C : ∀ k j, k ≠ 7 → ¬ (k = 0 ∧ j = 0) → ¬ (12 ≤ k ∧ k ≤ 15 ∧ j = n) → (uI (uI c4 15 0 n v4) 0 0 0 (nI (n + 1))).1 k 0 j = σc.1 k 0 j := fun k j a1 a2 a3 => by
    rw [uI_1, if_neg (by omega), cc _ _ a1, if_neg (by omega), if_neg (by omega), if_neg (by omega), if_neg (by omega)]
  have M : ∀ k j, ¬ (k = 11 ∧ (j = 31 ∨ j = 32)) → ¬ (k = 52 ∧ j = 0) → ¬ (53 ≤ k ∧ k ≤ 56 ∧ j = n) → (uI (uI m4 56 0 n u4) 52 0 0 (nI (n + 1))).1 k 0 j = σm.1 k 0 j := fun k j a1 a2 a3 => by
    rw [uI_1, if_neg (by omega), mm _ _ a1, if_neg (by omega), if_neg (by omega), if_neg (by omega), if_neg (by omega)]
  refine ⟨by rw [C _ _ (by omega) (by omega) (by omega)]; exact b1, ⟨by omega, b3, b4⟩, ⟨by rw [uI_1, if_pos ⟨rfl, rfl, rfl⟩], by rw [C _ _ (by omega) (by omega) (by omega)]; exact b6, by rw [C _ _ (by omega) (by omega) (by omega)]; exact b7⟩, ⟨by rw [uI_1, if_pos ⟨rfl, rfl, rfl⟩], by rw [M _ _ (by omega) (by omega) (by omega)]; exact b9, by rw [M _ _ (by omega) (by omega) (by omega)]; exact b10⟩, by rw [C _ _ (by omega) (by omega) (by omega), M _ _ (by omega) (by omega) (by omega)]; exact b11, ⟨w, by rw [C _ _ (by omega) (by omega) (by omega)]; exact b12, by rw [M _ _ (by omega) (by omega) (by omega)]; exact b13⟩, fun r i hr hi => ?_, fun i hi => ?_, fun r i hr hi => ?_, fun r i hr hi => ?_⟩
  · by_cases ei : i = n
    · subst ei
      have : r = 0 ∨ r = 1 ∨ r = 2 ∨ r = 3 := by omega
      have lf := cc (12 + r) i (by omega)
      have rt := mm (53 + r) i (by omega)
      rw [uI_1, if_neg (show ¬ (12 + r = 0 ∧ 0 = 0 ∧ i = 0) by omega), lf]
      rw [uI_1 _ 52 0 0, if_neg (show ¬ (53 + r = 52 ∧ 0 = 0 ∧ i = 0) by omega), rt]
      rcases this with rfl | rfl | rfl | rfl
      · simpa using w1
      · simpa using w2
      · simpa using w3
      · simpa using w4
    · rw [C _ _ (by omega) (by omega) (by omega), M _ _ (by omega) (by omega) (by omega)]
      exact b14 r i hr (by omega)
  · by_cases ei : i = n
    · subst ei
      rw [uI_1, if_neg (by omega), cc _ _ (by omega), if_neg (by omega), if_neg (by omega), if_neg (by omega), if_pos ⟨rfl, rfl⟩]
      rw [fa_le, i32_1] at lo1
      rw [fa_le, show (99 : Int32).toInt = 99 by decide] at hi1
      omega
    · rw [C _ _ (by omega) (by omega) (by omega)]
      exact b15 i (by omega)
  · rw [C _ _ (by omega) (by omega) (by omega), M _ _ (by omega) (by omega) (by omega)]
    exact b16 r i hr hi
  · rw [C _ _ (by omega) (by omega) (by omega), M _ _ (by omega) (by omega) (by omega)]
    exact b17 r i hr hi
end
