/-! CALLS: image, back, whole -/
theorem cpd.P {W w : Int32} {σ σ' : zH} {s t : Nat} {E : qE} {D : qD} (h : rP W σ t E w D) (c : cpd σ σ' s t) : rP W σ' s E w D := ⟨h.1.cp c, h.2.1.cp h.1.1 c, h.2.2.1, by rw [c.2.2.2.1 12 (by omega)]; exact h.2.2.2⟩
theorem x6_copyFrom {s t : Nat} (hst : s ≠ t) (σ : zH) : zwp (d_X6_copyFrom σ s t) (fun σ' => zsm (fun k i => (k = 6 ∨ k = 30) ∧ i = s) σ σ' ∧ σ'.1 6 s 1 = σ.1 6 t 1 ∧ σ'.1 6 s 2 = σ.1 6 t 2 ∧ ∀ j, j < 192 → σ'.1 30 s j = σ.1 30 t j) := by
  unfold d_X6_copyFrom
  refine zwp_let.mpr (zwp_let.mpr (zwp_let.mpr (zwp_some.mpr ⟨((zsm.rf.cp ⟨Or.inr rfl, rfl⟩ _ _ _).uI ⟨Or.inl rfl, rfl⟩ _ _).uI ⟨Or.inl rfl, rfl⟩ _ _, ?_, ?_, fun j hj => ?_⟩)))
  · rw [uI_1, if_neg (by omega), uI_1, if_pos ⟨rfl, rfl, rfl⟩, cpI_n (by omega)]
  · rw [uI_1, if_pos ⟨rfl, rfl, rfl⟩, uI_1, if_neg (by omega), cpI_n (by omega)]
  · rw [uI_1, if_neg (by omega), uI_1, if_neg (by omega), cpI_1 _ _ _ hj, if_pos ⟨rfl, rfl⟩]
    rfl
theorem ioff_lt : (∀ j, j < 11 → ioff 42 + j < 375) ∧ (∀ k j, 43 ≤ k → k ≤ 46 → j < 12 → ioff k + j < 375) ∧ (∀ k j, 47 ≤ k → k ≤ 51 → j < 8 → ioff k + j < 375) ∧ (∀ k, 62 ≤ k → k ≤ 69 → ∀ j, j < klen k → ioff k + j < 375) := by
  refine ⟨fun j hj => ?_, fun k j a b hj => ?_, fun k j a b hj => ?_, fun k a b j hj => ?_⟩
  · show 0 + j < 375
    omega
  · have : k = 43 ∨ k = 44 ∨ k = 45 ∨ k = 46 := by omega
    rcases this with rfl | rfl | rfl | rfl <;> simp only [ioff] <;> omega
  · have : k = 47 ∨ k = 48 ∨ k = 49 ∨ k = 50 ∨ k = 51 := by omega
    rcases this with rfl | rfl | rfl | rfl | rfl <;> simp only [ioff] <;> omega
  · have : k = 62 ∨ k = 63 ∨ k = 64 ∨ k = 65 ∨ k = 66 ∨ k = 67 ∨ k = 68 ∨ k = 69 := by omega
    rcases this with rfl | rfl | rfl | rfl | rfl | rfl | rfl | rfl <;> simp only [klen] at hj <;> simp at hj <;> simp only [ioff] <;> omega
theorem r_image {σc σm : zH} (h : qR σc σm) (x : Int32) : zrel (d_X10_image σc x) (d_X11_image σm x) qR := by
  obtain ⟨ht, hl, ⟨E, wt, D, v⟩, hi, hw⟩ := h
  have h : qR σc σm := ⟨ht, hl, ⟨E, wt, D, v⟩, hi, hw⟩
  unfold d_X10_image d_X11_image
  rcases num_case x 4 (by omega) with hx | ⟨k, hk, rfl⟩
  · rw [in_0 (A := 0) (B := 3) 0 3 rfl rfl (hx.imp id (fun q => le_pred (n := 4) (by omega) q))]
    simp only [Option.bind_some, if_true]
    by_cases h1 : x < 0
    · rw [if_pos h1]; exact zrel_same h
    · rw [if_neg h1, if_neg (show ¬ x < (4 : Int32) from le_not_lt (hx.resolve_left h1))]; exact zrel_same h
  rw [if_neg (nI_nneg (by omega)), if_pos (show nI k < (4 : Int32) from nI_lt (b := 4) hk (by omega)), in_1 (A := 0) (B := 3) 0 3 rfl rfl (nI_nneg (by omega)) (show ¬ (3 : Int32) < nI k from nI_nlt (a := 3) (by omega) (by omega))]
  simp only [Option.bind_some]
  rw [if_neg i10]
  simp only [ix_nI hk (show 4 < 2 ^ 31 by omega)]
  obtain ⟨σ2, e2, c⟩ := x8_copyFrom (s := 1 + k) (t := 0) (by omega) σc
  obtain ⟨σ4, e4, z4, l1, l2, l3⟩ := x6_copyFrom (s := 1 + k) (t := 0) (by omega) σ2
  obtain ⟨σ3, e3, m1, m2, m3⟩ := x11_carriesAll hk false (uI σm 91 0 k 1)
  rw [b2i_f] at e3
  rw [e2]
  simp only [Option.bind_some]
  rw [e4]
  simp only [Option.bind_some, zlet]
  rw [e3]
  simp only [Option.bind_some]
  have hr := imgOK_row m3
  have zc : ∀ k' i, ¬ (Fs (1 + k) k' i ∨ ((k' = 6 ∨ k' = 30) ∧ i = 1 + k) ∨ k' = 41) → (uI σ4 41 0 k 1).1 k' i = σc.1 k' i := fun k' i hn => funext fun j => by
    rw [uI_1, if_neg (fun q => hn (Or.inr (Or.inr q.1))), (z4 k' i (fun q => hn (Or.inr (Or.inl q)))).1, (c.1 k' i (fun q => hn (Or.inl q))).1]
  have zm : ∀ k' j, k' ≠ 91 → ¬ (k' = 11 ∧ (j = 65 ∨ j = 66)) → ¬ (k' = 90 ∧ 390 * k ≤ j ∧ j < 390 * k + 375) → σ3.1 k' 0 j = σm.1 k' 0 j := fun k' j q1 q2 q3 => by
    rw [m2 k' 0 j (by omega) (by omega) (by simp), uI_1, if_neg (by omega)]
  have zm91 : ∀ j, σ3.1 91 0 j = if j = k then 1 else σm.1 91 0 j := fun j => by
    rw [m2 91 0 j (by omega) (by omega) (by simp), uI_1]
    by_cases e : j = k
    · rw [if_pos ⟨rfl, rfl, e⟩, if_pos e]
    · rw [if_neg (by omega), if_neg e]
  have n1 : (uI σ4 41 0 k 1).1 8 0 1 = D 7 0 := by rw [zc 8 0 (by unfold Fs F8; omega)]; exact v.1.2.1.1
  have n2 : σ3.1 42 0 4 = D 7 0 := by rw [zm 42 4 (by omega) (by omega) (by omega)]; exact v.2.1.2.1.1
  rw [n1, n2]
  refine zrel_same ⟨ht.mv (by rw [zc 9 0 (by unfold Fs F8; omega)]) (zc 37 0 (by unfold Fs F8; omega)) (zm 11 30 (by omega) (by omega) (by omega)) (funext fun j => zm 70 j (by omega) (by omega) (by omega)),
    hl.mv (by rw [zc 10 0 (by unfold Fs F8; omega)]) (fun k' r hk' => zc k' r (by unfold Fs F8; omega)) (zm 11 34 (by omega) (by omega) (by omega)) (fun k' hk' => funext fun j => zm k' j (by omega) (by omega) (by omega)),
    ⟨E, wt, D, v.mv (fun k' hk' => zc k' 1 (by unfold Fs F8; omega)) (fun k' hk' => zc k' 0 (by unfold Fs F8; omega)) (fun k' hk' j => zm k' j (by omega) (by omega) (by omega)) (fun j _ => zm 42 j (by omega) (by omega) (by omega)) (fun k' a b j _ => zm k' j (by omega) (by omega) (by omega)) (zm 11 29 (by omega) (by omega) (by omega))⟩,
    fun k' hk' => ?_, by rw [zm 11 39 (by omega) (by omega) (by omega)]; exact hw.1, fun s q1 q2 => ?_⟩
  rotate_left
  · by_cases es : s = 1 + k + 1
    · subst es
      have u : ∀ kk i j, kk ≠ 41 → (uI σ4 41 0 k 1).1 kk i j = σ4.1 kk i j := fun kk i j hkk => by rw [uI_1, if_neg (by omega)]
      have e0 : (uI σ4 41 0 k 1).1 0 (1 + k + 1) 0 = σc.1 0 1 0 := by rw [u _ _ _ (by omega), (z4 0 _ (by omega)).1]; exact c.2.2.2.1 0 (by omega)
      rw [e0]
      refine (hw.2 1 (by omega) (by omega)).cg (fun j hj => ?_)
      rw [u _ _ _ (by omega), (z4 12 _ (by omega)).1]
      exact c.2.2.2.2.1 12 j (by omega) (by omega) hj
    · rw [zc 0 s (by unfold Fs F8; omega), zc 12 s (by unfold Fs F8; omega)]
      exact hw.2 s q1 q2
  by_cases ek : k' = k
  · subst ek
    refine ⟨true, by rw [uI_1, if_pos ⟨rfl, rfl, rfl⟩]; rfl, by rw [zm91, if_pos rfl]; rfl, fun _ => ⟨E, wt, D, ?_⟩⟩
    have p2 := cpd.P v.1 c
    have p4 : rP 0 (uI σ4 41 0 k' 1) (1 + k') E wt D := p2.mvF (fun kk hkk => funext fun j => by rw [uI_1, if_neg (by omega), (z4 kk _ (by omega)).1]) (fun kk hkk => funext fun j => by rw [uI_1, if_neg (by omega), (z4 kk _ (by omega)).1])
    rw [Nat.add_comm 1 k'] at p4 c l1 l2 l3 z4
    have u : ∀ kk i j, kk ≠ 41 → (uI σ4 41 0 k' 1).1 kk i j = σ4.1 kk i j := fun kk i j hkk => by rw [uI_1, if_neg (by omega)]
    refine v.cpy p4 ?_ ?_ ?_ ?_ (fun j hj => ?_) ?_ ?_ (fun j hj => ?_) (fun kk j a b hj => ?_) (fun kk j a b hj => ?_) (fun j hj => ?_) (fun kk a b j hj => ?_) (zm 11 29 (by omega) (by omega) (by omega))
    · rw [u _ _ _ (by omega), (z4 8 _ (by omega)).1]; exact c.2.1 12 (by omega)
    · rw [u _ _ _ (by omega), (z4 8 _ (by omega)).1]; exact c.2.1 13 (by omega)
    · rw [u _ _ _ (by omega), l1, (c.1 6 0 (by unfold Fs F8; omega)).1]
    · rw [u _ _ _ (by omega), l2, (c.1 6 0 (by unfold Fs F8; omega)).1]
    · rw [u _ _ _ (by omega), l3 j hj, (c.1 30 0 (by unfold Fs F8; omega)).1]
    · rw [u _ _ _ (by omega), (z4 0 _ (by omega)).1]; exact c.2.2.2.1 5 (by omega)
    · rw [u _ _ _ (by omega), (z4 0 _ (by omega)).1]; exact c.2.2.2.1 8 (by omega)
    · rw [u _ _ _ (by omega), u _ _ _ (by omega), (z4 16 _ (by omega)).1, (z4 17 _ (by omega)).1]
      exact ⟨c.2.2.2.2.2 16 j (by omega) (by omega) hj, c.2.2.2.2.2 17 j (by omega) (by omega) hj⟩
    · rw [imgH_ne _ _ (by omega), hr.2.1 kk j a b hj]; exact zm kk j (by omega) (by omega) (by omega)
    · rw [imgH_ne _ _ (by omega), hr.2.2.1 kk j a b hj]; exact zm kk j (by omega) (by omega) (by omega)
    · rw [imgH_ne _ _ (by omega), hr.1 j hj]; exact zm 42 j (by omega) (by omega) (by omega)
    · rw [imgH_ne _ _ (by omega), hr.2.2.2 kk a b j hj]; exact zm kk j (by omega) (by omega) (by omega)
  · obtain ⟨b, b1, b2, b3⟩ := hi k' hk'
    have u41 : (uI σ4 41 0 k 1).1 41 0 k' = σc.1 41 0 k' := by
      rw [uI_1, if_neg (by omega), (z4 41 0 (by omega)).1, (c.1 41 0 (by unfold Fs F8; omega)).1]
    refine ⟨b, by rw [u41]; exact b1, by rw [zm91, if_neg ek]; exact b2, fun hb => ?_⟩
    obtain ⟨E2, wt2, D2, v2⟩ := b3 hb
    have img : ∀ kk j, kk ≠ 11 → ioff kk + j < 375 → (imgH σ3 k').1 kk 0 j = (imgH σm k').1 kk 0 j := fun kk j hkk hj => by
      rw [imgH_ne _ _ hkk, imgH_ne _ _ hkk]
      exact zm 90 _ (by omega) (by omega) (by omega)
    have z8 : ∀ kk i, kk = 6 ∨ kk = 8 ∨ (30 ≤ kk ∧ kk ≤ 36) → i = k' + 1 → (uI σ4 41 0 k 1).1 kk i = σc.1 kk i := fun kk i hkk hi2 => zc kk i (by unfold Fs F8; omega)
    have z0 : ∀ kk i, kk = 0 ∨ (12 ≤ kk ∧ kk ≤ 20) → i = k' + 1 + 1 → (uI σ4 41 0 k 1).1 kk i = σc.1 kk i := fun kk i hkk hi2 => zc kk i (by unfold Fs F8; omega)
    refine ⟨E2, wt2, D2, v2.cpy (v2.1.mvF (fun kk hkk => z0 kk _ hkk rfl) (fun kk hkk => z8 kk _ (by omega) rfl)) (by rw [z8 8 _ (by omega) rfl]) (by rw [z8 8 _ (by omega) rfl]) (by rw [z8 6 _ (by omega) rfl]) (by rw [z8 6 _ (by omega) rfl]) (fun j _ => by rw [z8 30 _ (by omega) rfl]) (by rw [z0 0 _ (by omega) rfl]) (by rw [z0 0 _ (by omega) rfl]) (fun j _ => by rw [z0 16 _ (by omega) rfl, z0 17 _ (by omega) rfl]; exact ⟨rfl, rfl⟩)
      (fun kk j a b hj => img kk j (by omega) (ioff_lt.2.1 kk j a b hj)) (fun kk j a b hj => img kk j (by omega) (ioff_lt.2.2.1 kk j a b hj)) (fun j hj => img 42 j (by omega) (ioff_lt.1 j hj)) (fun kk a b j hj => img kk j (by omega) (ioff_lt.2.2.2 kk a b j hj)) (zm 11 29 (by omega) (by omega) (by omega))⟩
theorem irows_mem {k : Nat} (h : k ∈ irows) : (42 ≤ k ∧ k ≤ 51) ∨ (62 ≤ k ∧ k ≤ 69) := by
  have : ∀ k, k ∈ irows → (42 ≤ k ∧ k ≤ 51) ∨ (62 ≤ k ∧ k ≤ 69) := by decide
  exact this k h
theorem r_back {σc σm : zH} (h : qR σc σm) (x : Int32) : zrel (d_X10_back σc x) (d_X11_back σm x) qR := by
  obtain ⟨ht, hl, ⟨E0, wt0, D0, v0⟩, hi, hw⟩ := h
  have h : qR σc σm := ⟨ht, hl, ⟨E0, wt0, D0, v0⟩, hi, hw⟩
  unfold d_X10_back d_X11_back
  rcases num_case x 4 (by omega) with hx | ⟨k, hk, rfl⟩
  · rw [in_0 (A := 0) (B := 3) 0 3 rfl rfl (hx.imp id (fun q => le_pred (n := 4) (by omega) q))]
    simp only [Option.bind_some, if_true]
    by_cases h1 : x < 0
    · rw [if_pos h1]; exact zrel_same h
    · rw [if_neg h1, if_neg (show ¬ x < (4 : Int32) from le_not_lt (hx.resolve_left h1))]; exact zrel_same h
  rw [if_neg (nI_nneg (by omega)), if_pos (show nI k < (4 : Int32) from nI_lt (b := 4) hk (by omega)), in_1 (A := 0) (B := 3) 0 3 rfl rfl (nI_nneg (by omega)) (show ¬ (3 : Int32) < nI k from nI_nlt (a := 3) (by omega) (by omega))]
  simp only [Option.bind_some]
  rw [if_neg i10]
  simp only [ix_nI hk (show 4 < 2 ^ 31 by omega)]
  obtain ⟨b, b1, b2, b3⟩ := hi k hk
  rw [b1, b2]
  cases b with
  | false =>
    rw [if_pos (show b2i false = 0 from rfl), if_pos (show b2i false = 0 from rfl)]
    exact zrel_same h
  | true =>
    rw [if_neg (show ¬ b2i true = 0 by decide), if_neg (show ¬ b2i true = 0 by decide)]
    obtain ⟨E, wt, D, v⟩ := b3 rfl
    obtain ⟨σ2, e2, c⟩ := x8_copyFrom (s := 0) (t := 1 + k) (by omega) σc
    obtain ⟨σ4, e4, z4, l1, l2, l3⟩ := x6_copyFrom (s := 0) (t := 1 + k) (by omega) σ2
    obtain ⟨σ3, e3, m1, m2, m3⟩ := x11_carriesAll hk true σm
    rw [b2i_t] at e3
    rw [e2]
    simp only [Option.bind_some]
    rw [e4]
    simp only [Option.bind_some]
    rw [e3]
    simp only [Option.bind_some]
    have hr := imgOK_row m3
    rw [Nat.add_comm 1 k] at c l1 l2 l3
    have zc : ∀ k' i, ¬ (Fs 0 k' i ∨ ((k' = 6 ∨ k' = 30) ∧ i = 0)) → σ4.1 k' i = σc.1 k' i := fun k' i hn => by
      rw [(z4 k' i (fun q => hn (Or.inr q))).1, (c.1 k' i (fun q => hn (Or.inl q))).1]
    have zm : ∀ k' j, ¬ ((42 ≤ k' ∧ k' ≤ 51) ∨ (62 ≤ k' ∧ k' ≤ 69)) → ¬ (k' = 11 ∧ (j = 65 ∨ j = 66)) → σ3.1 k' 0 j = σm.1 k' 0 j := fun k' j q1 q2 =>
      m2 k' 0 j (by omega) (by simp) (fun q => q1 (irows_mem q.2.1))
    have z90 : ∀ j, σ3.1 90 0 j = σm.1 90 0 j := fun j => zm 90 j (by omega) (by omega)
    have vn : rLive σ4 0 σ3 E wt D := by
      have p4 : rP 0 σ4 0 E wt D := (cpd.P v.1 c).mvF (fun kk hkk => by rw [(z4 kk _ (by omega)).1]) (fun kk hkk => by rw [(z4 kk _ (by omega)).1])
      refine v.cpy p4 ?_ ?_ ?_ ?_ (fun j hj => ?_) ?_ ?_ (fun j hj => ?_) (fun kk j a b hj => ?_) (fun kk j a b hj => ?_) (fun j hj => ?_) (fun kk a b j hj => ?_) (zm 11 29 (by omega) (by omega))
      · rw [(z4 8 _ (by omega)).1]; exact c.2.1 12 (by omega)
      · rw [(z4 8 _ (by omega)).1]; exact c.2.1 13 (by omega)
      · rw [l1, (c.1 6 _ (by unfold Fs F8; omega)).1]
      · rw [l2, (c.1 6 _ (by unfold Fs F8; omega)).1]
      · rw [l3 j hj, (c.1 30 _ (by unfold Fs F8; omega)).1]
      · rw [(z4 0 _ (by omega)).1]; exact c.2.2.2.1 5 (by omega)
      · rw [(z4 0 _ (by omega)).1]; exact c.2.2.2.1 8 (by omega)
      · rw [(z4 16 _ (by omega)).1, (z4 17 _ (by omega)).1]
        exact ⟨c.2.2.2.2.2 16 j (by omega) (by omega) hj, c.2.2.2.2.2 17 j (by omega) (by omega) hj⟩
      · rw [imgH_ne _ _ (by omega), ← z90]; exact (hr.2.1 kk j a b hj).symm
      · rw [imgH_ne _ _ (by omega), ← z90]; exact (hr.2.2.1 kk j a b hj).symm
      · rw [imgH_ne _ _ (by omega), ← z90]; exact (hr.1 j hj).symm
      · rw [imgH_ne _ _ (by omega), ← z90]; exact (hr.2.2.2 kk a b j hj).symm
    rw [vn.1.2.1.1, vn.2.1.2.1.1]
    exact zrel_same ⟨ht.mv (by rw [zc 9 0 (by unfold Fs F8; omega)]) (zc 37 0 (by unfold Fs F8; omega)) (zm 11 30 (by omega) (by omega)) (funext fun j => zm 70 j (by omega) (by omega)),
      hl.mv (by rw [zc 10 0 (by unfold Fs F8; omega)]) (fun k' r hk' => zc k' r (by unfold Fs F8; omega)) (zm 11 34 (by omega) (by omega)) (fun k' hk' => funext fun j => zm k' j (by omega) (by omega)), ⟨E, wt, D, vn⟩,
      hi.mv (zc 41 0 (by unfold Fs F8; omega)) (fun k' i hk' hi2 => zc k' i (by unfold Fs F8; omega)) (fun k' i hk' hi2 => zc k' i (by unfold Fs F8; omega)) (funext fun j => zm 91 j (by omega) (by omega)) (funext fun j => z90 j) (zm 11 29 (by omega) (by omega)), by rw [zm 11 39 (by omega) (by omega)]; exact hw.1, fun s q1 q2 => by
        by_cases es : s = 1
        · subst es
          have e0 : σ4.1 0 1 0 = σc.1 0 (k + 1 + 1) 0 := by rw [(z4 0 _ (by omega)).1]; exact c.2.2.2.1 0 (by omega)
          rw [e0]
          refine (hw.2 (k + 1 + 1) (by omega) (by omega)).cg (fun j hj => ?_)
          rw [(z4 12 _ (by omega)).1]
          exact c.2.2.2.2.1 12 j (by omega) (by omega) hj
        · rw [zc 0 s (by unfold Fs F8; omega), zc 12 s (by unfold Fs F8; omega)]
          exact hw.2 s q1 q2⟩
