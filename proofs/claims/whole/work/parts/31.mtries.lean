/-! THE REFERENCE: the drum, kept rows, tries -/
def rMP (W : Int32) (σ : zH) (w : Int32) (E : qE) (wt : Int32) (D : qD) : Prop := rMC σ w E ∧ rMS W σ E D ∧ qOK E D ∧ σ.1 42 0 3 = wt
theorem x11_drum {W w wt : Int32} {σ : zH} {E : qE} {D : qD} (h : rMP W σ w E wt D) : zwp (d_X11_drum σ) (fun p => rMQ σ W E (qdrum E D) p.1 ∧ rMP W p.1 w E wt (qdrum E D) ∧ p.2 = qcnt E D) := by
  obtain ⟨hC, hS, hO, hw⟩ := h
  have hn := hC.1
  unfold d_X11_drum qcnt
  rw [qdrum_eq, show k_X11_drum_4 zN σ (0 : Int32) (0 : Int32) = k_X11_drum_4 zN σ (0 : Int32) (nI 0) by rw [nI_0]]
  refine zwp_for (fun f i (a : zH × Int32) => k_X11_drum_4 f a.1 a.2 (nI i)) (fun i a => rMQ σ W E (qfor qdr1 i D) a.1 ∧ a.2 = qsum (fun i => if D 0 i = 0 then 0 else 1) i) _ 0 (qeN E) (by omega) (by omega) ?_ ?_ (σ, 0) ⟨⟨zsm.rf, by rw [qfor_0]; exact hS, by rw [qfor_0]; exact hO, fun _ _ _ _ => rfl, fun _ => rfl⟩, rfl⟩
  · rintro f i ⟨σ', x⟩ hi ⟨hI, hx⟩ IH
    dsimp only at hI hx ⊢
    have hd0 : qfor qdr1 i D 0 i = D 0 i := qdr_ge 0 i i (Nat.le_refl _)
    generalize hD : qfor qdr1 i D = D' at hI hd0
    have h01 := (hI.2.2.1.1 i hi).1
    rw [k_X11_drum_4, (hI.C hC).2.1, if_pos (nI_lt hi (by omega)), ix_nI (by omega) (by omega), show σ'.1 62 0 i = D' 0 i from hI.2.1.2.2.2 0 i (by omega) hi]
    rw [nI_1]
    refine zwp_if (fun e => ?_) (fun e => ?_)
    · have ha : ¬ D' 0 i = 0 := by rw [e]; decide
      refine zwp_to (x11_changes hI hi (Or.inl rfl) 2 (-1)) (fun σ2 h2 => IH (σ2, x + 1) ⟨?_, ?_⟩)
      · rw [qfor, hD]; unfold qdr1; rw [if_neg ha]; exact h2
      · show x + 1 = _
        rw [qsum, if_neg (by rw [← hd0]; exact ha), hx]
    · have ha : D' 0 i = 0 := h01.resolve_right e
      refine IH (σ', x) ⟨?_, ?_⟩
      · rw [qfor, hD]; unfold qdr1; rw [if_pos ha]; exact hI
      · rw [qsum, if_pos (by rw [← hd0]; exact ha), hx, Int32.add_zero]
  · rintro f ⟨σ', x⟩ ⟨hI, hx⟩
    dsimp only at hI hx ⊢
    have hC1 := hI.C hC
    rw [k_X11_drum_4, hC1.2.1, if_neg (nI_nlt (Nat.le_refl _) (by omega))]
    exact zwp_some.mpr ⟨hI, ⟨hC1, hI.2.1, hI.2.2.1, by rw [hI.2.2.2.1 3 (by omega) (by omega) (by omega)]; exact hw⟩, hx⟩
theorem x11_lay {a b L : Nat} (hab : a ≠ b) (ha : aT a = 0) (hb : aT b = 0) (hA : aN a = L) (hB : aN b = L) (hL : L < 4000) (σ : zH) : zwp (d_X11_lay σ a 0 b 0) (fun σ' => σ'.2 = σ.2 ∧ (∀ k i j, ¬ (k = b ∧ i = 0 ∧ j < L) → σ'.1 k i j = σ.1 k i j) ∧ ∀ j, j < L → σ'.1 b 0 j = σ.1 a 0 j) := by
  unfold d_X11_lay
  rw [nI_c0]
  refine zwp_for (fun f i (σ' : zH) => k_X11_lay_2 f σ' a 0 b 0 (nI i)) (fun i σ' => σ'.2 = σ.2 ∧ (∀ k i' j, ¬ (k = b ∧ i' = 0 ∧ j < i) → σ'.1 k i' j = σ.1 k i' j) ∧ ∀ j, j < i → σ'.1 b 0 j = σ.1 a 0 j) _ 0 L (by omega) (by omega) ?_ ?_ σ ⟨rfl, fun _ _ _ _ => rfl, fun j hj => by omega⟩
  · rintro f i σ' hi ⟨h1, h2, h3⟩ IH
    rw [k_X11_lay_2, ha, hb, hA, hB]
    show zwp (if nI i < nI L then ix (nI i) L fun j1 => ix (nI i) L fun j3 => zlet (uI σ' b 0 j3 (σ'.1 a 0 j1)) fun σ2 => k_X11_lay_2 f σ2 a 0 b 0 (nI i + 1) else some σ') _
    rw [if_pos (nI_lt hi (by omega)), ix_nI hi (by omega), ix_nI hi (by omega), nI_1]
    refine zwp_let.mpr (IH _ ⟨h1, fun k i' j hk => ?_, fun j hj => ?_⟩)
    · rw [uI_1, if_neg (by omega)]; exact h2 k i' j (by omega)
    · rw [uI_1]
      by_cases e : j = i
      · rw [if_pos ⟨rfl, rfl, e⟩, e]; exact h2 _ _ _ (by omega)
      · rw [if_neg (by omega)]; exact h3 j (by omega)
  · rintro f σ' ⟨h1, h2, h3⟩
    rw [k_X11_lay_2, ha, hA]
    show zwp (if nI L < nI L then _ else some σ') _
    rw [if_neg (nI_nlt (Nat.le_refl _) (by omega))]
    exact zwp_some.mpr ⟨h1, h2, h3⟩
/-- how long a row is that is kept -/
def klen (k : Nat) : Nat := if k = 66 then 192 else 12
def kept (τ σ : zH) : Prop := (∀ j, j < 11 → τ.1 80 0 j = σ.1 42 0 j) ∧ ∀ k, 62 ≤ k → k ≤ 69 → ∀ j, j < klen k → τ.1 (k + 19) 0 j = σ.1 k 0 j
theorem x11_keeps (σ : zH) : zwp (d_X11_keeps σ) (fun σ' => σ'.2 = σ.2 ∧ (∀ k i j, ¬ (80 ≤ k ∧ k ≤ 88 ∧ i = 0) → σ'.1 k i j = σ.1 k i j) ∧ kept σ' σ) := by
  unfold d_X11_keeps
  refine zwp_to (x11_lay (L := 11) (by omega) (by decide +kernel) (by decide +kernel) (by decide +kernel) (by decide +kernel) (by omega) σ) (fun τ1 h1 => ?_)
  refine zwp_to (x11_lay (L := 12) (by omega) (by decide +kernel) (by decide +kernel) (by decide +kernel) (by decide +kernel) (by omega) τ1) (fun τ2 h2 => ?_)
  refine zwp_to (x11_lay (L := 12) (by omega) (by decide +kernel) (by decide +kernel) (by decide +kernel) (by decide +kernel) (by omega) τ2) (fun τ3 h3 => ?_)
  refine zwp_to (x11_lay (L := 12) (by omega) (by decide +kernel) (by decide +kernel) (by decide +kernel) (by decide +kernel) (by omega) τ3) (fun τ4 h4 => ?_)
  refine zwp_to (x11_lay (L := 12) (by omega) (by decide +kernel) (by decide +kernel) (by decide +kernel) (by decide +kernel) (by omega) τ4) (fun τ5 h5 => ?_)
  refine zwp_to (x11_lay (L := 192) (by omega) (by decide +kernel) (by decide +kernel) (by decide +kernel) (by decide +kernel) (by omega) τ5) (fun τ6 h6 => ?_)
  refine zwp_to (x11_lay (L := 12) (by omega) (by decide +kernel) (by decide +kernel) (by decide +kernel) (by decide +kernel) (by omega) τ6) (fun τ7 h7 => ?_)
  refine zwp_to (x11_lay (L := 12) (by omega) (by decide +kernel) (by decide +kernel) (by decide +kernel) (by decide +kernel) (by omega) τ7) (fun τ8 h8 => ?_)
  refine zwp_to (x11_lay (L := 12) (by omega) (by decide +kernel) (by decide +kernel) (by decide +kernel) (by decide +kernel) (by omega) τ8) (fun τ9 h9 => zwp_some.mpr ?_)
  refine ⟨by rw [h9.1, h8.1, h7.1, h6.1, h5.1, h4.1, h3.1, h2.1, h1.1], fun k i j hk => ?_, fun j hj => ?_, fun k hk1 hk2 j hj => ?_⟩
  · rw [h9.2.1 _ _ _ (by omega), h8.2.1 _ _ _ (by omega), h7.2.1 _ _ _ (by omega), h6.2.1 _ _ _ (by omega), h5.2.1 _ _ _ (by omega), h4.2.1 _ _ _ (by omega), h3.2.1 _ _ _ (by omega), h2.2.1 _ _ _ (by omega), h1.2.1 _ _ _ (by omega)]
  · rw [h9.2.1 _ _ _ (by omega), h8.2.1 _ _ _ (by omega), h7.2.1 _ _ _ (by omega), h6.2.1 _ _ _ (by omega), h5.2.1 _ _ _ (by omega), h4.2.1 _ _ _ (by omega), h3.2.1 _ _ _ (by omega), h2.2.1 _ _ _ (by omega), h1.2.2 _ hj]
  · have : k = 62 ∨ k = 63 ∨ k = 64 ∨ k = 65 ∨ k = 66 ∨ k = 67 ∨ k = 68 ∨ k = 69 := by omega
    rcases this with rfl | rfl | rfl | rfl | rfl | rfl | rfl | rfl <;> simp [klen] at hj
    · rw [h9.2.1 _ _ _ (by omega), h8.2.1 _ _ _ (by omega), h7.2.1 _ _ _ (by omega), h6.2.1 _ _ _ (by omega), h5.2.1 _ _ _ (by omega), h4.2.1 _ _ _ (by omega), h3.2.1 _ _ _ (by omega), h2.2.2 _ hj, h1.2.1 _ _ _ (by omega)]
    · rw [h9.2.1 _ _ _ (by omega), h8.2.1 _ _ _ (by omega), h7.2.1 _ _ _ (by omega), h6.2.1 _ _ _ (by omega), h5.2.1 _ _ _ (by omega), h4.2.1 _ _ _ (by omega), h3.2.2 _ hj, h2.2.1 _ _ _ (by omega), h1.2.1 _ _ _ (by omega)]
    · rw [h9.2.1 _ _ _ (by omega), h8.2.1 _ _ _ (by omega), h7.2.1 _ _ _ (by omega), h6.2.1 _ _ _ (by omega), h5.2.1 _ _ _ (by omega), h4.2.2 _ hj, h3.2.1 _ _ _ (by omega), h2.2.1 _ _ _ (by omega), h1.2.1 _ _ _ (by omega)]
    · rw [h9.2.1 _ _ _ (by omega), h8.2.1 _ _ _ (by omega), h7.2.1 _ _ _ (by omega), h6.2.1 _ _ _ (by omega), h5.2.2 _ hj, h4.2.1 _ _ _ (by omega), h3.2.1 _ _ _ (by omega), h2.2.1 _ _ _ (by omega), h1.2.1 _ _ _ (by omega)]
    · rw [h9.2.1 _ _ _ (by omega), h8.2.1 _ _ _ (by omega), h7.2.1 _ _ _ (by omega), h6.2.2 _ hj, h5.2.1 _ _ _ (by omega), h4.2.1 _ _ _ (by omega), h3.2.1 _ _ _ (by omega), h2.2.1 _ _ _ (by omega), h1.2.1 _ _ _ (by omega)]
    · rw [h9.2.1 _ _ _ (by omega), h8.2.1 _ _ _ (by omega), h7.2.2 _ hj, h6.2.1 _ _ _ (by omega), h5.2.1 _ _ _ (by omega), h4.2.1 _ _ _ (by omega), h3.2.1 _ _ _ (by omega), h2.2.1 _ _ _ (by omega), h1.2.1 _ _ _ (by omega)]
    · rw [h9.2.1 _ _ _ (by omega), h8.2.2 _ hj, h7.2.1 _ _ _ (by omega), h6.2.1 _ _ _ (by omega), h5.2.1 _ _ _ (by omega), h4.2.1 _ _ _ (by omega), h3.2.1 _ _ _ (by omega), h2.2.1 _ _ _ (by omega), h1.2.1 _ _ _ (by omega)]
    · rw [h9.2.2 _ hj, h8.2.1 _ _ _ (by omega), h7.2.1 _ _ _ (by omega), h6.2.1 _ _ _ (by omega), h5.2.1 _ _ _ (by omega), h4.2.1 _ _ _ (by omega), h3.2.1 _ _ _ (by omega), h2.2.1 _ _ _ (by omega), h1.2.1 _ _ _ (by omega)]
theorem x11_laysBack {τ σ : zH} (hk : kept τ σ) : zwp (d_X11_laysBack τ) (fun σ' => σ'.2 = τ.2 ∧ (∀ k i j, ¬ ((k = 42 ∨ (62 ≤ k ∧ k ≤ 69)) ∧ i = 0) → σ'.1 k i j = τ.1 k i j) ∧ (∀ j, j < 11 → σ'.1 42 0 j = σ.1 42 0 j) ∧ ∀ k, 62 ≤ k → k ≤ 69 → ∀ j, j < klen k → σ'.1 k 0 j = σ.1 k 0 j) := by
  unfold d_X11_laysBack
  refine zwp_to (x11_lay (L := 11) (by omega) (by decide +kernel) (by decide +kernel) (by decide +kernel) (by decide +kernel) (by omega) τ) (fun τ1 h1 => ?_)
  refine zwp_to (x11_lay (L := 12) (by omega) (by decide +kernel) (by decide +kernel) (by decide +kernel) (by decide +kernel) (by omega) τ1) (fun τ2 h2 => ?_)
  refine zwp_to (x11_lay (L := 12) (by omega) (by decide +kernel) (by decide +kernel) (by decide +kernel) (by decide +kernel) (by omega) τ2) (fun τ3 h3 => ?_)
  refine zwp_to (x11_lay (L := 12) (by omega) (by decide +kernel) (by decide +kernel) (by decide +kernel) (by decide +kernel) (by omega) τ3) (fun τ4 h4 => ?_)
  refine zwp_to (x11_lay (L := 12) (by omega) (by decide +kernel) (by decide +kernel) (by decide +kernel) (by decide +kernel) (by omega) τ4) (fun τ5 h5 => ?_)
  refine zwp_to (x11_lay (L := 192) (by omega) (by decide +kernel) (by decide +kernel) (by decide +kernel) (by decide +kernel) (by omega) τ5) (fun τ6 h6 => ?_)
  refine zwp_to (x11_lay (L := 12) (by omega) (by decide +kernel) (by decide +kernel) (by decide +kernel) (by decide +kernel) (by omega) τ6) (fun τ7 h7 => ?_)
  refine zwp_to (x11_lay (L := 12) (by omega) (by decide +kernel) (by decide +kernel) (by decide +kernel) (by decide +kernel) (by omega) τ7) (fun τ8 h8 => ?_)
  refine zwp_to (x11_lay (L := 12) (by omega) (by decide +kernel) (by decide +kernel) (by decide +kernel) (by decide +kernel) (by omega) τ8) (fun τ9 h9 => zwp_some.mpr ?_)
  refine ⟨by rw [h9.1, h8.1, h7.1, h6.1, h5.1, h4.1, h3.1, h2.1, h1.1], fun k i j hk => ?_, fun j hj => ?_, fun k hk1 hk2 j hj => ?_⟩
  · rw [h9.2.1 _ _ _ (by omega), h8.2.1 _ _ _ (by omega), h7.2.1 _ _ _ (by omega), h6.2.1 _ _ _ (by omega), h5.2.1 _ _ _ (by omega), h4.2.1 _ _ _ (by omega), h3.2.1 _ _ _ (by omega), h2.2.1 _ _ _ (by omega), h1.2.1 _ _ _ (by omega)]
  · rw [h9.2.1 _ _ _ (by omega), h8.2.1 _ _ _ (by omega), h7.2.1 _ _ _ (by omega), h6.2.1 _ _ _ (by omega), h5.2.1 _ _ _ (by omega), h4.2.1 _ _ _ (by omega), h3.2.1 _ _ _ (by omega), h2.2.1 _ _ _ (by omega), h1.2.2 _ hj, hk.1 j hj]
  · rw [← hk.2 k hk1 hk2 j hj]
    have : k = 62 ∨ k = 63 ∨ k = 64 ∨ k = 65 ∨ k = 66 ∨ k = 67 ∨ k = 68 ∨ k = 69 := by omega
    rcases this with rfl | rfl | rfl | rfl | rfl | rfl | rfl | rfl <;> simp [klen] at hj
    · rw [h9.2.1 _ _ _ (by omega), h8.2.1 _ _ _ (by omega), h7.2.1 _ _ _ (by omega), h6.2.1 _ _ _ (by omega), h5.2.1 _ _ _ (by omega), h4.2.1 _ _ _ (by omega), h3.2.1 _ _ _ (by omega), h2.2.2 _ hj, h1.2.1 _ _ _ (by omega)]
    · rw [h9.2.1 _ _ _ (by omega), h8.2.1 _ _ _ (by omega), h7.2.1 _ _ _ (by omega), h6.2.1 _ _ _ (by omega), h5.2.1 _ _ _ (by omega), h4.2.1 _ _ _ (by omega), h3.2.2 _ hj, h2.2.1 _ _ _ (by omega), h1.2.1 _ _ _ (by omega)]
    · rw [h9.2.1 _ _ _ (by omega), h8.2.1 _ _ _ (by omega), h7.2.1 _ _ _ (by omega), h6.2.1 _ _ _ (by omega), h5.2.1 _ _ _ (by omega), h4.2.2 _ hj, h3.2.1 _ _ _ (by omega), h2.2.1 _ _ _ (by omega), h1.2.1 _ _ _ (by omega)]
    · rw [h9.2.1 _ _ _ (by omega), h8.2.1 _ _ _ (by omega), h7.2.1 _ _ _ (by omega), h6.2.1 _ _ _ (by omega), h5.2.2 _ hj, h4.2.1 _ _ _ (by omega), h3.2.1 _ _ _ (by omega), h2.2.1 _ _ _ (by omega), h1.2.1 _ _ _ (by omega)]
    · rw [h9.2.1 _ _ _ (by omega), h8.2.1 _ _ _ (by omega), h7.2.1 _ _ _ (by omega), h6.2.2 _ hj, h5.2.1 _ _ _ (by omega), h4.2.1 _ _ _ (by omega), h3.2.1 _ _ _ (by omega), h2.2.1 _ _ _ (by omega), h1.2.1 _ _ _ (by omega)]
    · rw [h9.2.1 _ _ _ (by omega), h8.2.1 _ _ _ (by omega), h7.2.2 _ hj, h6.2.1 _ _ _ (by omega), h5.2.1 _ _ _ (by omega), h4.2.1 _ _ _ (by omega), h3.2.1 _ _ _ (by omega), h2.2.1 _ _ _ (by omega), h1.2.1 _ _ _ (by omega)]
    · rw [h9.2.1 _ _ _ (by omega), h8.2.2 _ hj, h7.2.1 _ _ _ (by omega), h6.2.1 _ _ _ (by omega), h5.2.1 _ _ _ (by omega), h4.2.1 _ _ _ (by omega), h3.2.1 _ _ _ (by omega), h2.2.1 _ _ _ (by omega), h1.2.1 _ _ _ (by omega)]
    · rw [h9.2.2 _ hj, h8.2.1 _ _ _ (by omega), h7.2.1 _ _ _ (by omega), h6.2.1 _ _ _ (by omega), h5.2.1 _ _ _ (by omega), h4.2.1 _ _ _ (by omega), h3.2.1 _ _ _ (by omega), h2.2.1 _ _ _ (by omega), h1.2.1 _ _ _ (by omega)]
