/-! CALLS: barracks, bells, duties, the watch -/
section
variable {b : Nat → Int32} {t : Nat} {σc0 σm0 σc σm : zH} {f : Int32} {p : Nat}
theorem b_bell (h : ST b t σc0 σm0 σc σm f p) {n bl d : Nat} (B : BB σc σm n bl d) (hn : bl < 8) (h2 : σc.1 1 0 2 = 0) :
    ∃ σc' σm' f' p', j_X1_readBell_20 σc (nI bl) (0 : Int32) = some σc' ∧ d_X11_barracksPart σm (1 : Int32) = some σm' ∧ ST b t σc0 σm0 σc' σm' f' p' ∧ (f' = 0 → BB σc' σm' n (bl + 1) d) := by
  obtain ⟨b1, ⟨b2, b3, b4⟩, ⟨b5, b6, b7⟩, ⟨b8, b9, b10⟩, b11, ⟨w, b12, b13⟩, b14, b15, b16, b17⟩ := B
  have hix1 : ∀ F : Nat → Option zH, ix (1 : Int32) 4 F = F 1 := fun F => by rw [← nI_one, ix_nI (by omega) (by omega)]
  unfold j_X1_readBell_20 d_X11_barracksPart
  rw [x1_few h2]
  simp only [Option.bind_some, if_true, zlet]
  rw [b1, ix_0 (by omega) (by omega), hix1, b9, if_neg i10]
  simp only [ix_nI hn (show 8 < 2 ^ 31 by omega)]
  obtain ⟨c1, v1, m1, u1, f1, p1, e1, g1, s1, zc1, zm1, o1⟩ := h.num 0 95 0 95 (fun _ => ⟨rfl, rfl, by decide⟩)
  rw [e1, g1]
  simp only [Option.bind_some]
  have s1' := s1.u (k := 16) (j := bl) (k' := 57) (j' := bl) (by omega) v1 (by omega) u1
  have i1 : (uI c1 16 0 bl v1).1 1 0 1 = 0 := by rw [uI_1, if_neg (by omega), zc1 _ _ _ (by omega)]; exact b1
  simp only [Nat.add_zero]
  rw [i1, ix_0 (by omega) (by omega)]
  obtain ⟨c2, v2, m2, u2, f2, p2, e2, g2, s2, zc2, zm2', o2⟩ := s1'.num 1 9 1 9 (fun _ => ⟨rfl, rfl, by decide⟩)
  rw [e2, g2]
  simp only [Option.bind_some]
  have s2' := s2.u (k := 17) (j := bl) (k' := 58) (j' := bl) (by omega) v2 (by omega) u2
  have i2 : (uI c2 17 0 bl v2).1 1 0 1 = 0 := by rw [uI_1, if_neg (by omega), zc2 _ _ _ (by omega)]; exact i1
  rw [i2, ix_0 (by omega) (by omega)]
  unfold j_X11_barracksPart_176 j_X11_barracksPart_193
  rw [hix1, if_pos (show (1 : Int32) < 3 by decide), hix1]
  simp only [if_true, zlet]
  have cc : ∀ k j, k ≠ 7 → (uI c2 17 0 bl v2).1 k 0 j = if k = 17 ∧ j = bl then v2 else if k = 16 ∧ j = bl then v1 else σc.1 k 0 j := fun k j hk => by
    rw [uI_1, zc2 _ _ _ hk, uI_1, zc1 _ _ _ hk]
    simp only [true_and]
  have mm : ∀ k j, ¬ (k = 11 ∧ (j = 31 ∨ j = 32)) → (uI m2 58 0 bl u2).1 k 0 j = if k = 58 ∧ j = bl then u2 else if k = 57 ∧ j = bl then u1 else σm.1 k 0 j := fun k j hk => by
    rw [uI_1, zm2' _ _ _ hk, uI_1, zm1 _ _ _ hk]
    simp only [true_and]
  have e52 : (uI m2 58 0 bl u2).1 52 0 1 = nI bl := by rw [mm _ _ (by omega), if_neg (by omega), if_neg (by omega)]; exact b9
  rw [e52, nI_1]
  have s5 := s2'.u (k := 0) (j := 5) (k' := 52) (j' := 1) (by omega) (nI (bl + 1)) (by omega) (nI (bl + 1))
  refine ⟨_, _, f2, p2, rfl, rfl, s5, fun e => ?_⟩
  obtain ⟨q1, w2, -, -⟩ := o2 e
  obtain ⟨q0, w1, -, -⟩ := o1 q1
  have C : ∀ k j, k ≠ 7 → ¬ (k = 0 ∧ j = 5) → ¬ (16 ≤ k ∧ k ≤ 17 ∧ j = bl) → (uI (uI c2 17 0 bl v2) 0 0 5 (nI (bl + 1))).1 k 0 j = σc.1 k 0 j := fun k j a1 a2 a3 => by
    rw [uI_1, if_neg (by omega), cc _ _ a1, if_neg (by omega), if_neg (by omega)]
  have M : ∀ k j, ¬ (k = 11 ∧ (j = 31 ∨ j = 32)) → ¬ (k = 52 ∧ j = 1) → ¬ (57 ≤ k ∧ k ≤ 58 ∧ j = bl) → (uI (uI m2 58 0 bl u2) 52 0 1 (nI (bl + 1))).1 k 0 j = σm.1 k 0 j := fun k j a1 a2 a3 => by
    rw [uI_1, if_neg (by omega), mm _ _ a1, if_neg (by omega), if_neg (by omega)]
  refine ⟨by rw [C _ _ (by omega) (by omega) (by omega)]; exact b1, ⟨b2, by omega, b4⟩, ⟨by rw [C _ _ (by omega) (by omega) (by omega)]; exact b5, by rw [uI_1, if_pos ⟨rfl, rfl, rfl⟩], by rw [C _ _ (by omega) (by omega) (by omega)]; exact b7⟩, ⟨by rw [M _ _ (by omega) (by omega) (by omega)]; exact b8, by rw [uI_1, if_pos ⟨rfl, rfl, rfl⟩], by rw [M _ _ (by omega) (by omega) (by omega)]; exact b10⟩, by rw [C _ _ (by omega) (by omega) (by omega), M _ _ (by omega) (by omega) (by omega)]; exact b11, ⟨w, by rw [C _ _ (by omega) (by omega) (by omega)]; exact b12, by rw [M _ _ (by omega) (by omega) (by omega)]; exact b13⟩, fun r i hr hi => ?_, fun i hi => ?_, fun r i hr hi => ?_, fun r i hr hi => ?_⟩
  · rw [C _ _ (by omega) (by omega) (by omega), M _ _ (by omega) (by omega) (by omega)]
    exact b14 r i hr hi
  · rw [C _ _ (by omega) (by omega) (by omega)]
    exact b15 i hi
  · by_cases ei : i = bl
    · subst ei
      have : r = 0 ∨ r = 1 := by omega
      have lf := cc (16 + r) i (by omega)
      have rt := mm (57 + r) i (by omega)
      rw [uI_1, if_neg (show ¬ (16 + r = 0 ∧ 0 = 0 ∧ i = 5) by omega), lf]
      rw [uI_1 _ 52 0 1, if_neg (show ¬ (57 + r = 52 ∧ 0 = 0 ∧ i = 1) by omega), rt]
      rcases this with rfl | rfl
      · simpa using w1
      · simpa using w2
    · rw [C _ _ (by omega) (by omega) (by omega), M _ _ (by omega) (by omega) (by omega)]
      exact b16 r i hr (by omega)
  · rw [C _ _ (by omega) (by omega) (by omega), M _ _ (by omega) (by omega) (by omega)]
    exact b17 r i hr hi
theorem b_duty (h : ST b t σc0 σm0 σc σm f p) {n bl d : Nat} (B : BB σc σm n bl d) (hn : d < 8) (h2 : σc.1 1 0 2 = 0) :
    ∃ σc' σm' f' p', j_X1_readDuty_20 σc (nI d) (0 : Int32) = some σc' ∧ d_X11_barracksPart σm (2 : Int32) = some σm' ∧ ST b t σc0 σm0 σc' σm' f' p' ∧ (f' = 0 → BB σc' σm' n bl (d + 1)) := by
  obtain ⟨b1, ⟨b2, b3, b4⟩, ⟨b5, b6, b7⟩, ⟨b8, b9, b10⟩, b11, ⟨w, b12, b13⟩, b14, b15, b16, b17⟩ := B
  have hix1 : ∀ F : Nat → Option zH, ix (2 : Int32) 4 F = F 2 := fun F => by rw [show (2 : Int32) = nI 2 from rfl, ix_nI (by omega) (by omega)]
  unfold j_X1_readDuty_20 d_X11_barracksPart
  rw [x1_few h2]
  simp only [Option.bind_some, if_true, zlet]
  rw [b1, ix_0 (by omega) (by omega), ix_0 (by omega) (by omega), b5, hix1, b10, if_neg (show ¬ (2 : Int32) = 0 by decide), if_neg (show ¬ (2 : Int32) = 1 by decide), b8]
  simp only [ix_nI hn (show 8 < 2 ^ 31 by omega)]
  obtain ⟨c1, v1, m1, u1, f1, p1, e1, g1, s1, zc1, zm1, o1⟩ := h.num 0 (nI n - 1) 0 (nI n - 1) (fun _ => ⟨rfl, rfl, by decide⟩)
  rw [e1, g1]
  simp only [Option.bind_some]
  have s1' := s1.u (k := 18) (j := d) (k' := 59) (j' := d) (by omega) v1 (by omega) u1
  have i1 : (uI c1 18 0 d v1).1 1 0 1 = 0 := by rw [uI_1, if_neg (by omega), zc1 _ _ _ (by omega)]; exact b1
  simp only [Nat.add_zero]
  rw [i1, ix_0 (by omega) (by omega)]
  obtain ⟨c2, v2, m2, u2, f2, p2, e2, g2, s2, zc2, zm2', o2⟩ := s1'.num 0 95 0 95 (fun _ => ⟨rfl, rfl, by decide⟩)
  rw [e2, g2]
  simp only [Option.bind_some]
  have s2' := s2.u (k := 19) (j := d) (k' := 60) (j' := d) (by omega) v2 (by omega) u2
  have i2 : (uI c2 19 0 d v2).1 1 0 1 = 0 := by rw [uI_1, if_neg (by omega), zc2 _ _ _ (by omega)]; exact i1
  rw [i2, ix_0 (by omega) (by omega), ix_0 (by omega) (by omega)]
  have l19 : (uI c2 19 0 d v2).1 19 0 d = v2 := by rw [uI_1, if_pos ⟨rfl, rfl, rfl⟩]
  have l60 : (uI m2 60 0 d u2).1 60 0 d = u2 := by rw [uI_1, if_pos ⟨rfl, rfl, rfl⟩]
  rw [l19, l60]
  obtain ⟨c3, v3, m3, u3, f3, p3, e3, g3, s3, zc3, zm3, o3⟩ := s2'.num v2 95 u2 95 (fun q => ⟨(o2 q).2.1.symm, rfl, by have := (o2 q).2.2.1; rw [fa_le, i32_0] at this; exact this⟩)
  rw [e3, g3]
  simp only [Option.bind_some]
  have s3' := s3.u (k := 20) (j := d) (k' := 61) (j' := d) (by omega) v3 (by omega) u3
  have i3 : (uI c3 20 0 d v3).1 1 0 1 = 0 := by rw [uI_1, if_neg (by omega), zc3 _ _ _ (by omega)]; exact i2
  rw [i3, ix_0 (by omega) (by omega)]
  unfold j_X11_barracksPart_176 j_X11_barracksPart_193
  rw [hix1, if_pos (show (2 : Int32) < 3 by decide), hix1]
  simp only [zlet]
  have cc : ∀ k j, k ≠ 7 → (uI c3 20 0 d v3).1 k 0 j = if k = 20 ∧ j = d then v3 else if k = 19 ∧ j = d then v2 else if k = 18 ∧ j = d then v1 else σc.1 k 0 j := fun k j hk => by
    rw [uI_1, zc3 _ _ _ hk, uI_1, zc2 _ _ _ hk, uI_1, zc1 _ _ _ hk]
    simp only [true_and]
  have mm : ∀ k j, ¬ (k = 11 ∧ (j = 31 ∨ j = 32)) → (uI m3 61 0 d u3).1 k 0 j = if k = 61 ∧ j = d then u3 else if k = 60 ∧ j = d then u2 else if k = 59 ∧ j = d then u1 else σm.1 k 0 j := fun k j hk => by
    rw [uI_1, zm3 _ _ _ hk, uI_1, zm2' _ _ _ hk, uI_1, zm1 _ _ _ hk]
    simp only [true_and]
  have e52 : (uI m3 61 0 d u3).1 52 0 2 = nI d := by rw [mm _ _ (by omega), if_neg (by omega), if_neg (by omega), if_neg (by omega)]; exact b10
  rw [e52, nI_1]
  have s5 := s3'.u (k := 0) (j := 8) (k' := 52) (j' := 2) (by omega) (nI (d + 1)) (by omega) (nI (d + 1))
  refine ⟨_, _, f3, p3, rfl, rfl, s5, fun e => ?_⟩
  obtain ⟨q2, w3, -, -⟩ := o3 e
  obtain ⟨q1, w2, -, -⟩ := o2 q2
  obtain ⟨q0, w1, -, -⟩ := o1 q1
  have C : ∀ k j, k ≠ 7 → ¬ (k = 0 ∧ j = 8) → ¬ (18 ≤ k ∧ k ≤ 20 ∧ j = d) → (uI (uI c3 20 0 d v3) 0 0 8 (nI (d + 1))).1 k 0 j = σc.1 k 0 j := fun k j a1 a2 a3 => by
    rw [uI_1, if_neg (by omega), cc _ _ a1, if_neg (by omega), if_neg (by omega), if_neg (by omega)]
  have M : ∀ k j, ¬ (k = 11 ∧ (j = 31 ∨ j = 32)) → ¬ (k = 52 ∧ j = 2) → ¬ (59 ≤ k ∧ k ≤ 61 ∧ j = d) → (uI (uI m3 61 0 d u3) 52 0 2 (nI (d + 1))).1 k 0 j = σm.1 k 0 j := fun k j a1 a2 a3 => by
    rw [uI_1, if_neg (by omega), mm _ _ a1, if_neg (by omega), if_neg (by omega), if_neg (by omega)]
  refine ⟨by rw [C _ _ (by omega) (by omega) (by omega)]; exact b1, ⟨b2, b3, by omega⟩, ⟨by rw [C _ _ (by omega) (by omega) (by omega)]; exact b5, by rw [C _ _ (by omega) (by omega) (by omega)]; exact b6, by rw [uI_1, if_pos ⟨rfl, rfl, rfl⟩]⟩, ⟨by rw [M _ _ (by omega) (by omega) (by omega)]; exact b8, by rw [M _ _ (by omega) (by omega) (by omega)]; exact b9, by rw [uI_1, if_pos ⟨rfl, rfl, rfl⟩]⟩, by rw [C _ _ (by omega) (by omega) (by omega), M _ _ (by omega) (by omega) (by omega)]; exact b11, ⟨w, by rw [C _ _ (by omega) (by omega) (by omega)]; exact b12, by rw [M _ _ (by omega) (by omega) (by omega)]; exact b13⟩, fun r i hr hi => ?_, fun i hi => ?_, fun r i hr hi => ?_, fun r i hr hi => ?_⟩
  · rw [C _ _ (by omega) (by omega) (by omega), M _ _ (by omega) (by omega) (by omega)]
    exact b14 r i hr hi
  · rw [C _ _ (by omega) (by omega) (by omega)]
    exact b15 i hi
  · rw [C _ _ (by omega) (by omega) (by omega), M _ _ (by omega) (by omega) (by omega)]
    exact b16 r i hr hi
  · by_cases ei : i = d
    · subst ei
      have : r = 0 ∨ r = 1 ∨ r = 2 := by omega
      have lf := cc (18 + r) i (by omega)
      have rt := mm (59 + r) i (by omega)
      rw [uI_1, if_neg (show ¬ (18 + r = 0 ∧ 0 = 0 ∧ i = 8) by omega), lf]
      rw [uI_1 _ 52 0 2, if_neg (show ¬ (59 + r = 52 ∧ 0 = 0 ∧ i = 2) by omega), rt]
      rcases this with rfl | rfl | rfl
      · simpa using w1
      · simpa using w2
      · simpa using w3
    · rw [C _ _ (by omega) (by omega) (by omega), M _ _ (by omega) (by omega) (by omega)]
      exact b17 r i hr (by omega)
theorem b_watch (h : ST b t σc0 σm0 σc σm f p) {n bl d : Nat} (B : BB σc σm n bl d) (hw : σc.1 1 0 3 = 0) (h2 : σc.1 1 0 2 = 0) :
    ∃ σc' σm' f' p', d_X1_readWatch σc = some σc' ∧ d_X11_barracksPart σm (3 : Int32) = some σm' ∧ ST b t σc0 σm0 σc' σm' f' p' ∧ (f' = 0 → BB σc' σm' n bl d) := by
  obtain ⟨b1, ⟨b2, b3, b4⟩, ⟨b5, b6, b7⟩, ⟨b8, b9, b10⟩, b11, -, b14, b15, b16, b17⟩ := B
  have hix1 : ∀ F : Nat → Option zH, ix (3 : Int32) 4 F = F 3 := fun F => by rw [show (3 : Int32) = nI 3 from rfl, ix_nI (by omega) (by omega)]
  unfold d_X1_readWatch d_X11_barracksPart
  rw [hw, x1_few h2]
  simp only [Option.bind_some, if_true, zlet]
  rw [hix1, if_neg (show ¬ (3 : Int32) = 0 by decide), if_neg (show ¬ (3 : Int32) = 1 by decide), if_neg (show ¬ (3 : Int32) = 2 by decide)]
  have s0 := h.uc (k := 1) (j := 3) (by omega) 1
  have i0 : (uI σc 1 0 3 1).1 1 0 1 = 0 := by rw [uI_1, if_neg (by omega)]; exact b1
  rw [i0, ix_0 (by omega) (by omega)]
  obtain ⟨c1, v1, m1, u1, f1, p1, e1, g1, s1, zc1, zm1, o1⟩ := s0.num 0 1200 0 1200 (fun _ => ⟨rfl, rfl, by decide⟩)
  rw [e1, g1]
  simp only [Option.bind_some]
  have s2 := ((s1.u (k := 0) (j := 12) (k' := 52) (j' := 3) (by omega) v1 (by omega) u1).um (k := 11) (j := 40) (by unfold Fbm; omega) (by omega) 1)
  unfold j_X11_barracksPart_176 j_X11_barracksPart_193
  rw [hix1, if_neg (show ¬ (3 : Int32) < 3 by decide), hix1]
  simp only [zlet]
  have e52 : (uI (uI m1 52 0 3 u1) 11 0 40 1).1 52 0 3 = u1 := by rw [uI_1, if_neg (by omega), uI_1, if_pos ⟨rfl, rfl, rfl⟩]
  rw [e52, Int32.add_zero]
  have s3 := s2.um (k := 52) (j := 3) (by unfold Fbm; omega) (by omega) u1
  refine ⟨_, _, f1, p1, rfl, rfl, s3, fun e => ?_⟩
  obtain ⟨q0, w1, -, -⟩ := o1 e
  have C : ∀ k j, k ≠ 7 → ¬ (k = 0 ∧ j = 12) → ¬ (k = 1 ∧ j = 3) → (uI c1 0 0 12 v1).1 k 0 j = σc.1 k 0 j := fun k j a1 a2 a3 => by
    rw [uI_1, if_neg (by omega), zc1 _ _ _ a1, uI_1, if_neg (by omega)]
  have M : ∀ k j, ¬ (k = 11 ∧ (j = 31 ∨ j = 32 ∨ j = 40)) → ¬ (k = 52 ∧ j = 3) → (uI (uI (uI m1 52 0 3 u1) 11 0 40 1) 52 0 3 u1).1 k 0 j = σm.1 k 0 j := fun k j a1 a2 => by
    rw [uI_1, if_neg (by omega), uI_1, if_neg (by omega), uI_1, if_neg (by omega), zm1 _ _ _ (by omega)]
  refine ⟨by rw [C _ _ (by omega) (by omega) (by omega)]; exact b1, ⟨b2, b3, b4⟩, ⟨by rw [C _ _ (by omega) (by omega) (by omega)]; exact b5, by rw [C _ _ (by omega) (by omega) (by omega)]; exact b6, by rw [C _ _ (by omega) (by omega) (by omega)]; exact b7⟩, ⟨by rw [M _ _ (by omega) (by omega)]; exact b8, by rw [M _ _ (by omega) (by omega)]; exact b9, by rw [M _ _ (by omega) (by omega)]; exact b10⟩, ?_, ⟨true, ?_, ?_⟩, fun r i hr hi => ?_, fun i hi => ?_, fun r i hr hi => ?_, fun r i hr hi => ?_⟩
  · rw [uI_1, if_pos ⟨rfl, rfl, rfl⟩, uI_1, if_pos ⟨rfl, rfl, rfl⟩]; exact w1
  · rw [uI_1, if_neg (by omega), zc1 _ _ _ (by omega), uI_1, if_pos ⟨rfl, rfl, rfl⟩]; rfl
  · rw [uI_1, if_neg (by omega), uI_1, if_pos ⟨rfl, rfl, rfl⟩]; rfl
  · rw [C _ _ (by omega) (by omega) (by omega), M _ _ (by omega) (by omega)]
    exact b14 r i hr hi
  · rw [C _ _ (by omega) (by omega) (by omega)]
    exact b15 i hi
  · rw [C _ _ (by omega) (by omega) (by omega), M _ _ (by omega) (by omega)]
    exact b16 r i hr hi
  · rw [C _ _ (by omega) (by omega) (by omega), M _ _ (by omega) (by omega)]
    exact b17 r i hr hi
end
