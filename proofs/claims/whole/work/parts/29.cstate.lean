/-! THE CLASS: copies of a State, its counts, the drum -/
def Fs (s k i : Nat) : Prop := F8 s k i ∨ ((k = 0 ∨ (12 ≤ k ∧ k ≤ 20)) ∧ i = s + 1)
theorem cpI_1 {σ : zH} {k i k1 i1 n : Nat} (k' i' j' : Nat) (hj : j' < n) : (cpI σ k i k1 i1 0 0 n).1 k' i' j' = if k' = k1 ∧ i' = i1 then σ.1 k i j' else σ.1 k' i' j' := by
  show (if k' = k1 ∧ i' = i1 then va_cpy (σ.1 k i) (σ.1 k1 i1) 0 0 n j' else σ.1 k' i' j') = _
  split
  · rw [pk_cpy_in (by omega) (by omega)]; simp
  · rfl
theorem cpI_n {σ : zH} {k i k1 i1 sp dp n : Nat} {k' i' : Nat} (h : ¬ (k' = k1 ∧ i' = i1)) : (cpI σ k i k1 i1 sp dp n).1 k' i' = σ.1 k' i' := cpI_ne k' i' h
/-- a State (instance t) has come to another one -/
def cpd (σ σ' : zH) (s t : Nat) : Prop := zsm (Fs s) σ σ' ∧ (∀ j, (1 ≤ j ∧ j ≤ 5) ∨ (12 ≤ j ∧ j ≤ 15) → σ'.1 8 s j = σ.1 8 t j) ∧ (∀ k j, 31 ≤ k → k ≤ 36 → j < 12 → σ'.1 k s j = σ.1 k t j) ∧
  (∀ j, j = 0 ∨ j = 5 ∨ j = 8 ∨ j = 12 → σ'.1 0 (s + 1) j = σ.1 0 (t + 1) j) ∧ (∀ k j, 12 ≤ k → k ≤ 15 → j < 12 → σ'.1 k (s + 1) j = σ.1 k (t + 1) j) ∧ (∀ k j, 16 ≤ k → k ≤ 20 → j < 8 → σ'.1 k (s + 1) j = σ.1 k (t + 1) j)
theorem x0_copyFrom {s t : Nat} (h : s ≠ t) (σ : zH) : zwp (d_X0_copyFrom σ s t) (fun σ' => zsm (fun k i => (k = 0 ∨ (12 ≤ k ∧ k ≤ 20)) ∧ i = s) σ σ' ∧
    (∀ j, j = 0 ∨ j = 5 ∨ j = 8 ∨ j = 12 → σ'.1 0 s j = σ.1 0 t j) ∧ (∀ k j, 12 ≤ k → k ≤ 15 → j < 12 → σ'.1 k s j = σ.1 k t j) ∧ (∀ k j, 16 ≤ k → k ≤ 20 → j < 8 → σ'.1 k s j = σ.1 k t j)) := by
  unfold d_X0_copyFrom
  simp only [Nat.add_zero]
  -- one copy after the other: what is copied stays, what isn't is as it was
  have hu : ∀ (τ : zH) (x : Nat) (Q : zH → Prop) (g : zH → Option zH), (∀ τ', τ' = uI τ 0 s x (τ.1 0 t x) → zwp (g τ') Q) → zwp (zlet (uI τ 0 s x (τ.1 0 t x)) g) Q := fun τ x Q g hg => hg _ rfl
  have hc : ∀ (τ : zH) (x n : Nat) (Q : zH → Prop) (g : zH → Option zH), (∀ τ', τ' = cpI τ x t x s 0 0 n → zwp (g τ') Q) → zwp (zlet (cpI τ x t x s 0 0 n) g) Q := fun τ x n Q g hg => hg _ rfl
  refine hu _ _ _ _ (fun τ1 e1 => hc _ _ _ _ _ (fun τ2 e2 => hc _ _ _ _ _ (fun τ3 e3 => hc _ _ _ _ _ (fun τ4 e4 => hc _ _ _ _ _ (fun τ5 e5 => hu _ _ _ _ (fun τ6 e6 => hc _ _ _ _ _ (fun τ7 e7 => hc _ _ _ _ _ (fun τ8 e8 => hu _ _ _ _ (fun τ9 e9 => hc _ _ _ _ _ (fun τ10 e10 => hc _ _ _ _ _ (fun τ11 e11 => hc _ _ _ _ _ (fun τ12 e12 => hu _ _ _ _ (fun τ13 e13 => zwp_some.mpr ?_)))))))))))))
  have f1 : ∀ k i j, τ1.1 k i j = if k = 0 ∧ i = s ∧ j = 0 then σ.1 0 t 0 else σ.1 k i j := fun k i j => by rw [e1, uI_1]
  have f6 : ∀ k i j, τ6.1 k i j = if k = 0 ∧ i = s ∧ j = 5 then τ5.1 0 t 5 else τ5.1 k i j := fun k i j => by rw [e6, uI_1]
  have f9 : ∀ k i j, τ9.1 k i j = if k = 0 ∧ i = s ∧ j = 8 then τ8.1 0 t 8 else τ8.1 k i j := fun k i j => by rw [e9, uI_1]
  have f13 : ∀ k i j, τ13.1 k i j = if k = 0 ∧ i = s ∧ j = 12 then τ12.1 0 t 12 else τ12.1 k i j := fun k i j => by rw [e13, uI_1]
  have g : ∀ (τ τ' : zH) (x n : Nat), τ' = cpI τ x t x s 0 0 n → (∀ k i j, ¬ (k = x ∧ i = s) → τ'.1 k i j = τ.1 k i j) ∧ (∀ j, j < n → τ'.1 x s j = τ.1 x t j) := fun τ τ' x n e => by
    refine ⟨fun k i j hk => by rw [e, cpI_n hk], fun j hj => ?_⟩
    rw [e, cpI_1 _ _ _ hj, if_pos ⟨rfl, rfl⟩]
  have g2 := g _ _ _ _ e2
  have g3 := g _ _ _ _ e3
  have g4 := g _ _ _ _ e4
  have g5 := g _ _ _ _ e5
  have g7 := g _ _ _ _ e7
  have g8 := g _ _ _ _ e8
  have g10 := g _ _ _ _ e10
  have g11 := g _ _ _ _ e11
  have g12 := g _ _ _ _ e12
  refine ⟨?_, fun j hj => ?_, fun k j h1 h2 hj => ?_, fun k j h1 h2 hj => ?_⟩
  · rw [e13, e12, e11, e10, e9, e8, e7, e6, e5, e4, e3, e2, e1]
    have a := zsm.rf (F := fun k i => (k = 0 ∨ (12 ≤ k ∧ k ≤ 20)) ∧ i = s) (σ := σ)
    exact (((((((((((((a.uI ⟨Or.inl rfl, rfl⟩ _ _).cp ⟨by omega, rfl⟩ _ _ _).cp ⟨by omega, rfl⟩ _ _ _).cp ⟨by omega, rfl⟩ _ _ _).cp ⟨by omega, rfl⟩ _ _ _).uI ⟨Or.inl rfl, rfl⟩ _ _).cp ⟨by omega, rfl⟩ _ _ _).cp ⟨by omega, rfl⟩ _ _ _).uI ⟨Or.inl rfl, rfl⟩ _ _).cp ⟨by omega, rfl⟩ _ _ _).cp ⟨by omega, rfl⟩ _ _ _).cp ⟨by omega, rfl⟩ _ _ _).uI ⟨Or.inl rfl, rfl⟩ _ _)
  · rcases hj with rfl | rfl | rfl | rfl
    · rw [f13, if_neg (by omega), g12.1 _ _ _ (by omega), g11.1 _ _ _ (by omega), g10.1 _ _ _ (by omega), f9, if_neg (by omega), g8.1 _ _ _ (by omega), g7.1 _ _ _ (by omega), f6, if_neg (by omega), g5.1 _ _ _ (by omega), g4.1 _ _ _ (by omega), g3.1 _ _ _ (by omega), g2.1 _ _ _ (by omega), f1, if_pos ⟨rfl, rfl, rfl⟩]
    · rw [f13, if_neg (by omega), g12.1 _ _ _ (by omega), g11.1 _ _ _ (by omega), g10.1 _ _ _ (by omega), f9, if_neg (by omega), g8.1 _ _ _ (by omega), g7.1 _ _ _ (by omega), f6, if_pos ⟨rfl, rfl, rfl⟩, g5.1 _ _ _ (by omega), g4.1 _ _ _ (by omega), g3.1 _ _ _ (by omega), g2.1 _ _ _ (by omega), f1, if_neg (by omega)]
    · rw [f13, if_neg (by omega), g12.1 _ _ _ (by omega), g11.1 _ _ _ (by omega), g10.1 _ _ _ (by omega), f9, if_pos ⟨rfl, rfl, rfl⟩, g8.1 _ _ _ (by omega), g7.1 _ _ _ (by omega), f6, if_neg (by omega), g5.1 _ _ _ (by omega), g4.1 _ _ _ (by omega), g3.1 _ _ _ (by omega), g2.1 _ _ _ (by omega), f1, if_neg (by omega)]
    · rw [f13, if_pos ⟨rfl, rfl, rfl⟩, g12.1 _ _ _ (by omega), g11.1 _ _ _ (by omega), g10.1 _ _ _ (by omega), f9, if_neg (by omega), g8.1 _ _ _ (by omega), g7.1 _ _ _ (by omega), f6, if_neg (by omega), g5.1 _ _ _ (by omega), g4.1 _ _ _ (by omega), g3.1 _ _ _ (by omega), g2.1 _ _ _ (by omega), f1, if_neg (by omega)]
  · rw [f13, if_neg (by omega), g12.1 _ _ _ (by omega), g11.1 _ _ _ (by omega), g10.1 _ _ _ (by omega), f9, if_neg (by omega), g8.1 _ _ _ (by omega), g7.1 _ _ _ (by omega), f6, if_neg (by omega)]
    have : k = 12 ∨ k = 13 ∨ k = 14 ∨ k = 15 := by omega
    rcases this with rfl | rfl | rfl | rfl
    · rw [g5.1 _ _ _ (by omega), g4.1 _ _ _ (by omega), g3.1 _ _ _ (by omega), g2.2 _ hj, f1, if_neg (by omega)]
    · rw [g5.1 _ _ _ (by omega), g4.1 _ _ _ (by omega), g3.2 _ hj, g2.1 _ _ _ (by omega), f1, if_neg (by omega)]
    · rw [g5.1 _ _ _ (by omega), g4.2 _ hj, g3.1 _ _ _ (by omega), g2.1 _ _ _ (by omega), f1, if_neg (by omega)]
    · rw [g5.2 _ hj, g4.1 _ _ _ (by omega), g3.1 _ _ _ (by omega), g2.1 _ _ _ (by omega), f1, if_neg (by omega)]
  · have b : ∀ i, τ6.1 k i j = σ.1 k i j := fun i => by rw [f6, if_neg (by omega), g5.1 _ _ _ (by omega), g4.1 _ _ _ (by omega), g3.1 _ _ _ (by omega), g2.1 _ _ _ (by omega), f1, if_neg (by omega)]
    rw [f13, if_neg (by omega)]
    have : k = 16 ∨ k = 17 ∨ k = 18 ∨ k = 19 ∨ k = 20 := by omega
    rcases this with rfl | rfl | rfl | rfl | rfl
    · rw [g12.1 _ _ _ (by omega), g11.1 _ _ _ (by omega), g10.1 _ _ _ (by omega), f9, if_neg (by omega), g8.1 _ _ _ (by omega), g7.2 _ hj, b]
    · rw [g12.1 _ _ _ (by omega), g11.1 _ _ _ (by omega), g10.1 _ _ _ (by omega), f9, if_neg (by omega), g8.2 _ hj, g7.1 _ _ _ (by omega), b]
    · rw [g12.1 _ _ _ (by omega), g11.1 _ _ _ (by omega), g10.2 _ hj, f9, if_neg (by omega), g8.1 _ _ _ (by omega), g7.1 _ _ _ (by omega), b]
    · rw [g12.1 _ _ _ (by omega), g11.2 _ hj, g10.1 _ _ _ (by omega), f9, if_neg (by omega), g8.1 _ _ _ (by omega), g7.1 _ _ _ (by omega), b]
    · rw [g12.2 _ hj, g11.1 _ _ _ (by omega), g10.1 _ _ _ (by omega), f9, if_neg (by omega), g8.1 _ _ _ (by omega), g7.1 _ _ _ (by omega), b]
theorem x8_copyFrom {s t : Nat} (h : s ≠ t) (σ : zH) : zwp (d_X8_copyFrom σ s t) (fun σ' => cpd σ σ' s t) := by
  unfold d_X8_copyFrom
  refine zwp_to (x0_copyFrom (show s + 1 ≠ t + 1 by omega) σ) (fun τ0 h0 => ?_)
  obtain ⟨z0, a1, a2, a3⟩ := h0
  simp only [Nat.add_zero]
  have hu : ∀ (τ : zH) (x : Nat) (Q : zH → Prop) (g : zH → Option zH), (∀ τ', τ' = uI τ 8 s x (τ.1 8 t x) → zwp (g τ') Q) → zwp (zlet (uI τ 8 s x (τ.1 8 t x)) g) Q := fun τ x Q g hg => hg _ rfl
  have hc : ∀ (τ : zH) (x n : Nat) (Q : zH → Prop) (g : zH → Option zH), (∀ τ', τ' = cpI τ x t x s 0 0 n → zwp (g τ') Q) → zwp (zlet (cpI τ x t x s 0 0 n) g) Q := fun τ x n Q g hg => hg _ rfl
  refine hu _ _ _ _ (fun τ1 e1 => hu _ _ _ _ (fun τ2 e2 => hu _ _ _ _ (fun τ3 e3 => hu _ _ _ _ (fun τ4 e4 => hu _ _ _ _ (fun τ5 e5 => hc _ _ _ _ _ (fun τ6 e6 => hc _ _ _ _ _ (fun τ7 e7 => hc _ _ _ _ _ (fun τ8 e8 => hc _ _ _ _ _ (fun τ9 e9 => hc _ _ _ _ _ (fun τ10 e10 => hc _ _ _ _ _ (fun τ11 e11 => hu _ _ _ _ (fun τ12 e12 => hu _ _ _ _ (fun τ13 e13 => hu _ _ _ _ (fun τ14 e14 => hu _ _ _ _ (fun τ15 e15 => zwp_some.mpr ?_)))))))))))))))
  have f1 : ∀ k i j, τ1.1 k i j = if k = 8 ∧ i = s ∧ j = 1 then τ0.1 8 t 1 else τ0.1 k i j := fun k i j => by rw [e1, uI_1]
  have f2 : ∀ k i j, τ2.1 k i j = if k = 8 ∧ i = s ∧ j = 2 then τ1.1 8 t 2 else τ1.1 k i j := fun k i j => by rw [e2, uI_1]
  have f3 : ∀ k i j, τ3.1 k i j = if k = 8 ∧ i = s ∧ j = 3 then τ2.1 8 t 3 else τ2.1 k i j := fun k i j => by rw [e3, uI_1]
  have f4 : ∀ k i j, τ4.1 k i j = if k = 8 ∧ i = s ∧ j = 4 then τ3.1 8 t 4 else τ3.1 k i j := fun k i j => by rw [e4, uI_1]
  have f5 : ∀ k i j, τ5.1 k i j = if k = 8 ∧ i = s ∧ j = 5 then τ4.1 8 t 5 else τ4.1 k i j := fun k i j => by rw [e5, uI_1]
  have f12 : ∀ k i j, τ12.1 k i j = if k = 8 ∧ i = s ∧ j = 12 then τ11.1 8 t 12 else τ11.1 k i j := fun k i j => by rw [e12, uI_1]
  have f13 : ∀ k i j, τ13.1 k i j = if k = 8 ∧ i = s ∧ j = 13 then τ12.1 8 t 13 else τ12.1 k i j := fun k i j => by rw [e13, uI_1]
  have f14 : ∀ k i j, τ14.1 k i j = if k = 8 ∧ i = s ∧ j = 14 then τ13.1 8 t 14 else τ13.1 k i j := fun k i j => by rw [e14, uI_1]
  have f15 : ∀ k i j, τ15.1 k i j = if k = 8 ∧ i = s ∧ j = 15 then τ14.1 8 t 15 else τ14.1 k i j := fun k i j => by rw [e15, uI_1]
  have g : ∀ (τ τ' : zH) (x n : Nat), τ' = cpI τ x t x s 0 0 n → (∀ k i j, ¬ (k = x ∧ i = s) → τ'.1 k i j = τ.1 k i j) ∧ (∀ j, j < n → τ'.1 x s j = τ.1 x t j) := fun τ τ' x n e => by
    refine ⟨fun k i j hk => by rw [e, cpI_n hk], fun j hj => ?_⟩
    rw [e, cpI_1 _ _ _ hj, if_pos ⟨rfl, rfl⟩]
  have g6 := g _ _ _ _ e6
  have g7 := g _ _ _ _ e7
  have g8 := g _ _ _ _ e8
  have g9 := g _ _ _ _ e9
  have g10 := g _ _ _ _ e10
  have g11 := g _ _ _ _ e11
  have z0' : zsm (Fs s) σ τ0 := z0.mono (fun k i q => Or.inr q)
  refine ⟨?_, fun j hj => ?_, fun k j h1 h2 hj => ?_, fun j hj => ?_, fun k j h1 h2 hj => ?_, fun k j h1 h2 hj => ?_⟩
  · rw [e15, e14, e13, e12, e11, e10, e9, e8, e7, e6, e5, e4, e3, e2, e1]
    exact (((((((((((((((z0'.uI (Or.inl (Or.inl ⟨rfl, rfl⟩)) _ _).uI (Or.inl (Or.inl ⟨rfl, rfl⟩)) _ _).uI (Or.inl (Or.inl ⟨rfl, rfl⟩)) _ _).uI (Or.inl (Or.inl ⟨rfl, rfl⟩)) _ _).uI (Or.inl (Or.inl ⟨rfl, rfl⟩)) _ _).cp (Or.inl (Or.inr (Or.inl ⟨by omega, by omega, rfl⟩))) _ _ _).cp (Or.inl (Or.inr (Or.inl ⟨by omega, by omega, rfl⟩))) _ _ _).cp (Or.inl (Or.inr (Or.inl ⟨by omega, by omega, rfl⟩))) _ _ _).cp (Or.inl (Or.inr (Or.inl ⟨by omega, by omega, rfl⟩))) _ _ _).cp (Or.inl (Or.inr (Or.inl ⟨by omega, by omega, rfl⟩))) _ _ _).cp (Or.inl (Or.inr (Or.inl ⟨by omega, by omega, rfl⟩))) _ _ _).uI (Or.inl (Or.inl ⟨rfl, rfl⟩)) _ _).uI (Or.inl (Or.inl ⟨rfl, rfl⟩)) _ _).uI (Or.inl (Or.inl ⟨rfl, rfl⟩)) _ _).uI (Or.inl (Or.inl ⟨rfl, rfl⟩)) _ _)
  · have hj9 : j = 1 ∨ j = 2 ∨ j = 3 ∨ j = 4 ∨ j = 5 ∨ j = 12 ∨ j = 13 ∨ j = 14 ∨ j = 15 := by omega
    have b : ∀ j, τ0.1 8 t j = σ.1 8 t j := fun j => by rw [(z0 8 t (by omega)).1]
    rcases hj9 with rfl | rfl | rfl | rfl | rfl | rfl | rfl | rfl | rfl
    · rw [f15, if_neg (by omega), f14, if_neg (by omega), f13, if_neg (by omega), f12, if_neg (by omega), g11.1 _ _ _ (by omega), g10.1 _ _ _ (by omega), g9.1 _ _ _ (by omega), g8.1 _ _ _ (by omega), g7.1 _ _ _ (by omega), g6.1 _ _ _ (by omega), f5, if_neg (by omega), f4, if_neg (by omega), f3, if_neg (by omega), f2, if_neg (by omega), f1, if_pos ⟨rfl, rfl, rfl⟩, b]
    · rw [f15, if_neg (by omega), f14, if_neg (by omega), f13, if_neg (by omega), f12, if_neg (by omega), g11.1 _ _ _ (by omega), g10.1 _ _ _ (by omega), g9.1 _ _ _ (by omega), g8.1 _ _ _ (by omega), g7.1 _ _ _ (by omega), g6.1 _ _ _ (by omega), f5, if_neg (by omega), f4, if_neg (by omega), f3, if_neg (by omega), f2, if_pos ⟨rfl, rfl, rfl⟩, f1, if_neg (by omega), b]
    · rw [f15, if_neg (by omega), f14, if_neg (by omega), f13, if_neg (by omega), f12, if_neg (by omega), g11.1 _ _ _ (by omega), g10.1 _ _ _ (by omega), g9.1 _ _ _ (by omega), g8.1 _ _ _ (by omega), g7.1 _ _ _ (by omega), g6.1 _ _ _ (by omega), f5, if_neg (by omega), f4, if_neg (by omega), f3, if_pos ⟨rfl, rfl, rfl⟩, f2, if_neg (by omega), f1, if_neg (by omega), b]
    · rw [f15, if_neg (by omega), f14, if_neg (by omega), f13, if_neg (by omega), f12, if_neg (by omega), g11.1 _ _ _ (by omega), g10.1 _ _ _ (by omega), g9.1 _ _ _ (by omega), g8.1 _ _ _ (by omega), g7.1 _ _ _ (by omega), g6.1 _ _ _ (by omega), f5, if_neg (by omega), f4, if_pos ⟨rfl, rfl, rfl⟩, f3, if_neg (by omega), f2, if_neg (by omega), f1, if_neg (by omega), b]
    · rw [f15, if_neg (by omega), f14, if_neg (by omega), f13, if_neg (by omega), f12, if_neg (by omega), g11.1 _ _ _ (by omega), g10.1 _ _ _ (by omega), g9.1 _ _ _ (by omega), g8.1 _ _ _ (by omega), g7.1 _ _ _ (by omega), g6.1 _ _ _ (by omega), f5, if_pos ⟨rfl, rfl, rfl⟩, f4, if_neg (by omega), f3, if_neg (by omega), f2, if_neg (by omega), f1, if_neg (by omega), b]
    · rw [f15, if_neg (by omega), f14, if_neg (by omega), f13, if_neg (by omega), f12, if_pos ⟨rfl, rfl, rfl⟩, g11.1 _ _ _ (by omega), g10.1 _ _ _ (by omega), g9.1 _ _ _ (by omega), g8.1 _ _ _ (by omega), g7.1 _ _ _ (by omega), g6.1 _ _ _ (by omega), f5, if_neg (by omega), f4, if_neg (by omega), f3, if_neg (by omega), f2, if_neg (by omega), f1, if_neg (by omega), b]
    · rw [f15, if_neg (by omega), f14, if_neg (by omega), f13, if_pos ⟨rfl, rfl, rfl⟩, f12, if_neg (by omega), g11.1 _ _ _ (by omega), g10.1 _ _ _ (by omega), g9.1 _ _ _ (by omega), g8.1 _ _ _ (by omega), g7.1 _ _ _ (by omega), g6.1 _ _ _ (by omega), f5, if_neg (by omega), f4, if_neg (by omega), f3, if_neg (by omega), f2, if_neg (by omega), f1, if_neg (by omega), b]
    · rw [f15, if_neg (by omega), f14, if_pos ⟨rfl, rfl, rfl⟩, f13, if_neg (by omega), f12, if_neg (by omega), g11.1 _ _ _ (by omega), g10.1 _ _ _ (by omega), g9.1 _ _ _ (by omega), g8.1 _ _ _ (by omega), g7.1 _ _ _ (by omega), g6.1 _ _ _ (by omega), f5, if_neg (by omega), f4, if_neg (by omega), f3, if_neg (by omega), f2, if_neg (by omega), f1, if_neg (by omega), b]
    · rw [f15, if_pos ⟨rfl, rfl, rfl⟩, f14, if_neg (by omega), f13, if_neg (by omega), f12, if_neg (by omega), g11.1 _ _ _ (by omega), g10.1 _ _ _ (by omega), g9.1 _ _ _ (by omega), g8.1 _ _ _ (by omega), g7.1 _ _ _ (by omega), g6.1 _ _ _ (by omega), f5, if_neg (by omega), f4, if_neg (by omega), f3, if_neg (by omega), f2, if_neg (by omega), f1, if_neg (by omega), b]
  · have hk9 : k = 31 ∨ k = 32 ∨ k = 33 ∨ k = 34 ∨ k = 35 ∨ k = 36 := by omega
    have b : ∀ k, 31 ≤ k → k ≤ 36 → τ0.1 k t j = σ.1 k t j := fun k h1 h2 => by rw [(z0 k t (by omega)).1]
    rcases hk9 with rfl | rfl | rfl | rfl | rfl | rfl
    · rw [f15, if_neg (by omega), f14, if_neg (by omega), f13, if_neg (by omega), f12, if_neg (by omega), g11.1 _ _ _ (by omega), g10.1 _ _ _ (by omega), g9.1 _ _ _ (by omega), g8.1 _ _ _ (by omega), g7.1 _ _ _ (by omega), g6.2 _ hj, f5, if_neg (by omega), f4, if_neg (by omega), f3, if_neg (by omega), f2, if_neg (by omega), f1, if_neg (by omega), b _ (by omega) (by omega)]
    · rw [f15, if_neg (by omega), f14, if_neg (by omega), f13, if_neg (by omega), f12, if_neg (by omega), g11.1 _ _ _ (by omega), g10.1 _ _ _ (by omega), g9.1 _ _ _ (by omega), g8.1 _ _ _ (by omega), g7.2 _ hj, g6.1 _ _ _ (by omega), f5, if_neg (by omega), f4, if_neg (by omega), f3, if_neg (by omega), f2, if_neg (by omega), f1, if_neg (by omega), b _ (by omega) (by omega)]
    · rw [f15, if_neg (by omega), f14, if_neg (by omega), f13, if_neg (by omega), f12, if_neg (by omega), g11.1 _ _ _ (by omega), g10.1 _ _ _ (by omega), g9.1 _ _ _ (by omega), g8.2 _ hj, g7.1 _ _ _ (by omega), g6.1 _ _ _ (by omega), f5, if_neg (by omega), f4, if_neg (by omega), f3, if_neg (by omega), f2, if_neg (by omega), f1, if_neg (by omega), b _ (by omega) (by omega)]
    · rw [f15, if_neg (by omega), f14, if_neg (by omega), f13, if_neg (by omega), f12, if_neg (by omega), g11.1 _ _ _ (by omega), g10.1 _ _ _ (by omega), g9.2 _ hj, g8.1 _ _ _ (by omega), g7.1 _ _ _ (by omega), g6.1 _ _ _ (by omega), f5, if_neg (by omega), f4, if_neg (by omega), f3, if_neg (by omega), f2, if_neg (by omega), f1, if_neg (by omega), b _ (by omega) (by omega)]
    · rw [f15, if_neg (by omega), f14, if_neg (by omega), f13, if_neg (by omega), f12, if_neg (by omega), g11.1 _ _ _ (by omega), g10.2 _ hj, g9.1 _ _ _ (by omega), g8.1 _ _ _ (by omega), g7.1 _ _ _ (by omega), g6.1 _ _ _ (by omega), f5, if_neg (by omega), f4, if_neg (by omega), f3, if_neg (by omega), f2, if_neg (by omega), f1, if_neg (by omega), b _ (by omega) (by omega)]
    · rw [f15, if_neg (by omega), f14, if_neg (by omega), f13, if_neg (by omega), f12, if_neg (by omega), g11.2 _ hj, g10.1 _ _ _ (by omega), g9.1 _ _ _ (by omega), g8.1 _ _ _ (by omega), g7.1 _ _ _ (by omega), g6.1 _ _ _ (by omega), f5, if_neg (by omega), f4, if_neg (by omega), f3, if_neg (by omega), f2, if_neg (by omega), f1, if_neg (by omega), b _ (by omega) (by omega)]
  · rw [f15, if_neg (by omega), f14, if_neg (by omega), f13, if_neg (by omega), f12, if_neg (by omega), g11.1 _ _ _ (by omega), g10.1 _ _ _ (by omega), g9.1 _ _ _ (by omega), g8.1 _ _ _ (by omega), g7.1 _ _ _ (by omega), g6.1 _ _ _ (by omega), f5, if_neg (by omega), f4, if_neg (by omega), f3, if_neg (by omega), f2, if_neg (by omega), f1, if_neg (by omega)]; exact a1 j hj
  · rw [f15, if_neg (by omega), f14, if_neg (by omega), f13, if_neg (by omega), f12, if_neg (by omega), g11.1 _ _ _ (by omega), g10.1 _ _ _ (by omega), g9.1 _ _ _ (by omega), g8.1 _ _ _ (by omega), g7.1 _ _ _ (by omega), g6.1 _ _ _ (by omega), f5, if_neg (by omega), f4, if_neg (by omega), f3, if_neg (by omega), f2, if_neg (by omega), f1, if_neg (by omega)]; exact a2 k j h1 h2 hj
  · rw [f15, if_neg (by omega), f14, if_neg (by omega), f13, if_neg (by omega), f12, if_neg (by omega), g11.1 _ _ _ (by omega), g10.1 _ _ _ (by omega), g9.1 _ _ _ (by omega), g8.1 _ _ _ (by omega), g7.1 _ _ _ (by omega), g6.1 _ _ _ (by omega), f5, if_neg (by omega), f4, if_neg (by omega), f3, if_neg (by omega), f2, if_neg (by omega), f1, if_neg (by omega)]; exact a3 k j h1 h2 hj
theorem rC.cp {σ σ' : zH} {s t : Nat} {E : qE} (h : rC σ (t + 1) E) (c : cpd σ σ' s t) : rC σ' (s + 1) E := by
  obtain ⟨-, -, -, c4, c5, c6⟩ := c
  obtain ⟨h1, h2, h3, ⟨b, hb, h5, hB, hT⟩, ⟨d, hd, h8, hU⟩⟩ := h
  refine ⟨h1, by rw [c4 0 (by omega)]; exact h2, fun r i hr hi => by rw [c5 _ _ (by omega) (by omega) (by omega)]; exact h3 r i hr hi, ⟨b, hb, by rw [c4 5 (by omega)]; exact h5, fun q => ?_, fun q => ?_⟩, ⟨d, hd, by rw [c4 8 (by omega)]; exact h8, fun k q => ?_⟩⟩
  · rw [hB]
    exact qfst_cong (fun i hi => by rw [c6 16 i (by omega) (by omega) (by omega)])
  · rw [hT]
    split
    · rfl
    · rename_i e
      rw [hB] at e ⊢
      rcases qfst_cases (fun i => decide (σ.1 16 (t + 1) i = q)) b with ⟨-, e2⟩ | ⟨i, hi, -, -, e2⟩
      · exact absurd e2 e
      · rw [e2, nI_clamp (by omega), c6 17 i (by omega) (by omega) (by omega)]
  · rw [hU]
    exact qfst_cong (fun i hi => by rw [c6 18 i (by omega) (by omega) (by omega), c6 19 i (by omega) (by omega) (by omega), c6 20 i (by omega) (by omega) (by omega)])
theorem rS.cp {σ σ' : zH} {s t : Nat} {W : Int32} {E : qE} {D : qD} (h : rS W σ t E D) (hn : qeN E ≤ 12) (c : cpd σ σ' s t) : rS W σ' s E D := by
  obtain ⟨-, c2, c3, -⟩ := c
  obtain ⟨h1, h2, h3, h4, h5, h6, h7, h8⟩ := h
  refine ⟨by rw [c2 1 (by omega)]; exact h1, by rw [c2 2 (by omega)]; exact h2, by rw [c2 3 (by omega)]; exact h3, by rw [c2 4 (by omega)]; exact h4, by rw [c2 5 (by omega)]; exact h5, by rw [c2 15 (by omega)]; exact h6, fun r i hr h0 h3 hi => ?_, fun i hi => ?_⟩
  · rw [c3 _ _ (by omega) (by omega) (by omega)]; exact h7 r i hr h0 h3 hi
  · rw [c3 _ _ (by omega) (by omega) (by omega)]; exact h8 i hi
/-- all men -/
def qall (E : qE) : Int32 := qsum (fun i => qeR E 0 i) (qeN E)
theorem x8_beginCounts {σ : zH} {s : Nat} {W : Int32} {E : qE} {D : qD} (hC : rC σ (s + 1) E) (hS : rS W σ s E D) : zwp (d_X8_beginCounts σ s) (fun σ' => zsm (F8 s) σ σ' ∧ rS (-(D 7 2)) σ' s E D ∧ cst σ' s = (0, -2, qall E)) := by
  have hn := hC.1
  unfold d_X8_beginCounts
  simp only [zlet]
  have e0 : (uI (uI σ 8 s 12 0) 8 s 13 (-2)).1 0 (s + 1) 0 = nI (qeN E) := by simpa [uI_1] using hC.2.1
  rw [x0_menOf (n := qeN E) (by rw [e0]) hn, e0]
  simp only [Option.bind_some]
  have e1 : qsum (fun i => if bt ((1 : Int32) <<< (nI (qeN E) &&& 31) - 1) i then (uI (uI σ 8 s 12 0) 8 s 13 (-2)).1 12 (s + 1) i else 0) (qeN E) = qall E := qsum_cong (fun i hi => by
    rw [bt_full _ (by omega) _ (by omega), decide_eq_true hi, if_pos rfl]
    have := hC.2.2.1 0 i (by omega) hi
    simpa [uI_1] using this)
  rw [e1]
  obtain ⟨h1, h2, h3, h4, h5, h6, h7, h8⟩ := hS
  refine zwp_some.mpr ⟨(((zsm.rf.uI (Or.inl ⟨rfl, rfl⟩) _ _).uI (Or.inl ⟨rfl, rfl⟩) _ _).uI (Or.inl ⟨rfl, rfl⟩) _ _).uI (Or.inl ⟨rfl, rfl⟩) _ _, ⟨?_, ?_, ?_, ?_, ?_, ?_, ?_, ?_⟩, ?_⟩
  · simpa [uI_1] using h1
  · simpa [uI_1] using h2
  · simpa [uI_1] using h3
  · simpa [uI_1] using h4
  · simpa [uI_1] using h5
  · rw [Int32.add_left_neg]; simp [uI_1]
  · intro r i hr h0 h3 hi
    rw [← h7 r i hr h0 h3 hi]
    simp [uI_1, show 30 + r ≠ 8 by omega]
  · intro i hi
    simpa [uI_1] using h8 i hi
  · unfold cst
    simp [uI_1]
/-- a State at instance s has E and D; its watch; W -/
def rP (W : Int32) (σ : zH) (s : Nat) (E : qE) (w : Int32) (D : qD) : Prop := rC σ (s + 1) E ∧ rS W σ s E D ∧ qOK E D ∧ σ.1 0 (s + 1) 12 = w
theorem rP.mvF {W : Int32} {σ σ' : zH} {s : Nat} {E : qE} {w : Int32} {D : qD} (h : rP W σ s E w D) (hs : ∀ k, k = 0 ∨ (12 ≤ k ∧ k ≤ 20) → σ'.1 k (s + 1) = σ.1 k (s + 1)) (hs2 : ∀ k, k = 8 ∨ (31 ≤ k ∧ k ≤ 36) → σ'.1 k s = σ.1 k s) : rP W σ' s E w D := by
  obtain ⟨h1, h2, h3, h4⟩ := h
  refine ⟨h1.mv hs, ?_, h3, by rw [hs 0 (Or.inl rfl)]; exact h4⟩
  obtain ⟨a1, a2, a3, a4, a5, a6, a7, a8⟩ := h2
  unfold rS
  rw [hs2 8 (Or.inl rfl), hs2 33 (by omega)]
  exact ⟨a1, a2, a3, a4, a5, a6, fun r i hr h0 h3 hi => by rw [hs2 (30 + r) (by omega)]; exact a7 r i hr h0 h3 hi, a8⟩
