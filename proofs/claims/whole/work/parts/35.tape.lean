/-! CALLS: feed, end (rows s_u, b_ushr from the kit's texts to paste) -/
theorem s_u : ∀ n, n < 32 → (((nI n).toUInt32 &&& Int32.toUInt32 31).toBitVec % 32).toNat = n := by decide +kernel
theorem b_ushr (n : Nat) (hn : n < 32) (x : Int32) (i : Nat) : bt ((x.toUInt32 >>> ((nI n).toUInt32 &&& Int32.toUInt32 31)).toInt32) i = bt x (n + i) := by
  show (x.toUInt32 >>> ((nI n).toUInt32 &&& Int32.toUInt32 31)).toBitVec.getLsbD i = x.toUInt32.toBitVec.getLsbD (n + i)
  rw [UInt32.toBitVec_shiftRight]
  show (x.toUInt32.toBitVec >>> (((nI n).toUInt32 &&& Int32.toUInt32 31).toBitVec % 32).toNat).getLsbD i = _
  rw [s_u n hn, BitVec.getLsbD_ushiftRight]
/-- a byte as the class keeps it, as the reference does -/
def byC (x s : Int32) : Int32 := (x.toUInt32 >>> (s.toUInt32 &&& Int32.toUInt32 31)).toInt32 &&& 255
def byM (x s : Int32) : Int32 := (x >>> (s &&& 31)).toInt8.toInt32.toInt8.toInt32
theorem by_eq (x : Int32) {n : Nat} (hn : n ≤ 24) : byC x (nI n) = byM x (nI n) &&& 255 := by
  unfold byC byM
  rw [fb_byte_twice, bp_b]
  refine b_ext (fun i hi => ?_)
  rw [b_and, b_and, b_255, b_ushr n (by omega), b_sshr n (by omega) x hi]
  by_cases h : i < 8
  · rw [if_pos (by omega)]
  · rw [decide_eq_false h, Bool.and_false, Bool.and_false]
/-- the tape of t bytes -/
def rT (t : Nat) (σc σm : zH) : Prop := σc.1 9 0 1 = nI t ∧ σm.1 11 0 30 = nI t ∧ ∀ i, i < t → σc.1 37 0 i = σm.1 70 0 i &&& 255 ∧ -128 ≤ (σm.1 70 0 i).toInt ∧ (σm.1 70 0 i).toInt < 128
theorem rT.byte {t : Nat} {σc σm : zH} (h : rT t σc σm) (x : Int32) {n : Nat} (hn : n ≤ 24) : rT (t + 1) (uI (uI σc 37 0 t (byC x (nI n))) 9 0 1 (nI (t + 1))) (uI (uI σm 70 0 t (byM x (nI n))) 11 0 30 (nI (t + 1))) := by
  refine ⟨by simp [uI_1], by simp [uI_1], fun i hi => ?_⟩
  by_cases e : i = t
  · subst e
    have e1 : (uI (uI σc 37 0 i (byC x (nI n))) 9 0 1 (nI (i + 1))).1 37 0 i = byC x (nI n) := by simp [uI_1]
    have e2 : (uI (uI σm 70 0 i (byM x (nI n))) 11 0 30 (nI (i + 1))).1 70 0 i = byM x (nI n) := by simp [uI_1]
    rw [e1, e2, by_eq x hn]
    exact ⟨rfl, fb_byte_rng _⟩
  · have e1 : (uI (uI σc 37 0 t (byC x (nI n))) 9 0 1 (nI (t + 1))).1 37 0 i = σc.1 37 0 i := by simp [uI_1, e]
    have e2 : (uI (uI σm 70 0 t (byM x (nI n))) 11 0 30 (nI (t + 1))).1 70 0 i = σm.1 70 0 i := by simp [uI_1, e]
    rw [e1, e2]
    exact h.2.2 i (by omega)
theorem x9_step {σ : zH} {t : Nat} (h : σ.1 9 0 1 = nI t) (ht : t < 400) (x : Int32) (n f : Nat) (hn : n < 2 ^ 31) : k_X9_add_3 (f + 1) σ x (nI n) = k_X9_add_3 f (uI (uI σ 37 0 t (byC x (nI n))) 9 0 1 (nI (t + 1))) x (nI n + (-8)) := by
  rw [k_X9_add_3, if_neg (nI_nneg hn), h, if_pos (show nI t < (400 : Int32) from nI_lt (b := 400) ht (by omega)), ix_nI ht (by omega)]
  simp only [zlet]
  rw [show (uI σ 37 0 t ((x.toUInt32 >>> ((nI n).toUInt32 &&& Int32.toUInt32 31)).toInt32 &&& 255)).1 9 0 1 = nI t by simpa [uI_1] using h, nI_1]
  rfl
theorem x11_pstep {σ : zH} {t : Nat} (h : σ.1 11 0 30 = nI t) (ht : t < 400) (x : Int32) (n f : Nat) (hn : n < 2 ^ 31) : k_X11_put_3 (f + 1) σ x (nI n) = k_X11_put_3 f (uI (uI σ 70 0 t (byM x (nI n))) 11 0 30 (nI (t + 1))) x (nI n + (-8)) := by
  rw [k_X11_put_3, if_neg (nI_nneg hn), h, ix_nI ht (by omega)]
  simp only [zlet]
  rw [show (uI σ 70 0 t (x >>> (nI n &&& 31)).toInt8.toInt32.toInt8.toInt32).1 11 0 30 = nI t by simpa [uI_1] using h, nI_1]
  rfl
/-- what feed's steps leave -/
def frT (σc σm σc' σm' : zH) : Prop := zsm (fun k _ => k = 9 ∨ k = 37) σc σc' ∧ zsm (fun k _ => k = 11 ∨ k = 70) σm σm' ∧ ∀ j, j ≠ 30 → σm'.1 11 0 j = σm.1 11 0 j
theorem frT.rf (a b : zH) : frT a b a b := ⟨zsm.rf, zsm.rf, fun _ _ => rfl⟩
theorem frT.tr {a b a1 b1 a2 b2 : zH} (h : frT a b a1 b1) (h2 : frT a1 b1 a2 b2) : frT a b a2 b2 := ⟨h.1.tr h2.1, h.2.1.tr h2.2.1, fun j hj => (h2.2.2 j hj).trans (h.2.2 j hj)⟩
theorem frT.byte {a b a1 b1 : zH} (h : frT a b a1 b1) (t : Nat) (x y z w : Int32) : frT a b (uI (uI a1 37 0 t x) 9 0 1 y) (uI (uI b1 70 0 t z) 11 0 30 w) :=
  ⟨(h.1.uI (Or.inr rfl) _ _).uI (Or.inl rfl) _ _, (h.2.1.uI (Or.inr rfl) _ _).uI (Or.inl rfl) _ _, fun j hj => by
    rw [← h.2.2 j hj]
    simp [uI_1, hj]⟩
theorem add_put {t : Nat} {σc σm : zH} (h : rT t σc σm) (ht : t + 4 ≤ 400) (x : Int32) : ∃ σc' σm', d_X9_add σc x = some σc' ∧ d_X11_put σm x = some σm' ∧ rT (t + 4) σc' σm' ∧ frT σc σm σc' σm' := by
  obtain ⟨m, hm⟩ : ∃ m, zN = m + 5 := ⟨4091, zN_eq⟩
  have r1 := h.byte x (n := 24) (by omega)
  have r2 := r1.byte x (n := 16) (by omega)
  have r3 := r2.byte x (n := 8) (by omega)
  have r4 := r3.byte x (n := 0) (by omega)
  have s1 : nI 24 + (-8) = nI 16 := by decide
  have s2 : nI 16 + (-8) = nI 8 := by decide
  have s3 : nI 8 + (-8) = nI 0 := by decide
  have s4 : nI 0 + (-8) < 0 := by decide
  refine ⟨_, _, ?_, ?_, r4, ((((frT.rf σc σm).byte _ _ _ _ _).byte _ _ _ _ _).byte _ _ _ _ _).byte _ _ _ _ _⟩
  · unfold d_X9_add
    rw [hm, show (24 : Int32) = nI 24 from rfl, x9_step h.1 (by omega) x 24 _ (by omega), s1, x9_step r1.1 (by omega) x 16 _ (by omega), s2, x9_step r2.1 (by omega) x 8 _ (by omega), s3, x9_step r3.1 (by omega) x 0 _ (by omega), k_X9_add_3, if_pos s4]
  · unfold d_X11_put
    rw [hm, show (24 : Int32) = nI 24 from rfl, x11_pstep h.2.1 (by omega) x 24 _ (by omega), s1, x11_pstep r1.2.1 (by omega) x 16 _ (by omega), s2, x11_pstep r2.2.1 (by omega) x 8 _ (by omega), s3, x11_pstep r3.2.1 (by omega) x 0 _ (by omega), k_X11_put_3, if_pos s4]
theorem qR.t {σc σm σc' σm' : zH} (h : qR σc σm) (hf : frT σc σm σc' σm') (ht : rTape σc' σm') : qR σc' σm' := by
  obtain ⟨-, l, ⟨E, wt, D, v⟩, i, w⟩ := h
  obtain ⟨z1, z2, z3⟩ := hf
  exact ⟨ht, l.mv (by rw [(z1 10 0 (by omega)).1]) (fun k r hk => (z1 k r (by omega)).1) (z3 34 (by omega)) (fun k hk => (z2 k 0 (by omega)).1), ⟨E, wt, D, v.mv (fun k hk => (z1 k _ (by omega)).1) (fun k hk => (z1 k _ (by omega)).1) (fun k hk j => by rw [(z2 k 0 (by omega)).1]) (fun j _ => by rw [(z2 42 0 (by omega)).1]) (fun k a b j _ => by rw [(z2 k 0 (by omega)).1]) (z3 29 (by omega))⟩,
    i.mv (z1 41 0 (by omega)).1 (fun k i hk hi => (z1 k i (by omega)).1) (fun k i hk hi => (z1 k i (by omega)).1) (z2 91 0 (by omega)).1 (z2 90 0 (by omega)).1 (z3 29 (by omega)), by rw [z3 39 (by omega)]; exact w.1, w.2.mv (fun k i hk h1 h2 => (z1 k i (by omega)).1)⟩
theorem r_feed {σc σm : zH} (h : qR σc σm) (a b c d e : Int32) : zrel (d_X10_feed σc a b c d e) (d_X11_feed σm a b c d e) qR := by
  obtain ⟨t, t1, t2, t3, t4⟩ := h.1
  unfold d_X10_feed d_X11_feed
  rw [t2, t3, show nI t + (20 : Int32) = nI (t + 20) from nI_add t 20]
  by_cases h1 : 380 < t
  · rw [if_pos (show (380 : Int32) < nI t from nI_lt (a := 380) h1 (by omega)), if_pos (show (400 : Int32) < nI (t + 20) from nI_lt (a := 400) (by omega) (by omega))]
    exact zrel_same h
  · rw [if_neg (show ¬ (380 : Int32) < nI t from nI_nlt (b := t) (a := 380) (by omega) (by omega)), if_neg (show ¬ (400 : Int32) < nI (t + 20) from nI_nlt (a := 400) (by omega) (by omega))]
    have r0 : rT t σc σm := ⟨t2, t3, t4⟩
    obtain ⟨c1, m1, e1, f1, r1, g1⟩ := add_put r0 (by omega) a
    obtain ⟨c2, m2, e2, f2, r2, g2⟩ := add_put r1 (by omega) b
    obtain ⟨c3, m3, e3, f3, r3, g3⟩ := add_put r2 (by omega) c
    obtain ⟨c4, m4, e4, f4, r4, g4⟩ := add_put r3 (by omega) d
    obtain ⟨c5, m5, e5, f5, r5, g5⟩ := add_put r4 (by omega) e
    simp only [e1, e2, e3, e4, e5, f1, f2, f3, f4, f5, Option.bind_some]
    rw [r5.1, r5.2.1]
    exact zrel_same (h.t ((((g1.tr g2).tr g3).tr g4).tr g5) ⟨_, by omega, r5.1, r5.2.1, r5.2.2⟩)
theorem r_end {σc σm : zH} (h : qR σc σm) (x : Int32) : zrel (d_X10_end σc x) (d_X11_end σm x) qR := by
  obtain ⟨t, t1, t2, t3, t4⟩ := h.1
  unfold d_X10_end d_X11_end
  rw [t2, t3]
  by_cases h1 : x < 0
  · rw [if_pos h1, if_pos h1]; exact zrel_same h
  · rw [if_neg h1, if_neg h1]
    by_cases h2 : nI t < x
    · rw [if_pos h2, if_pos h2]; exact zrel_same h
    · rw [if_neg h2, if_neg h2]
      obtain ⟨k, hk, rfl⟩ := nI_of h1
      rw [nI_ltI (by omega) hk] at h2
      refine zrel_same (h.t ⟨zsm.rf.uI (Or.inl rfl) _ _, zsm.rf.uI (Or.inl rfl) _ _, fun j hj => by simp [uI_1, hj]⟩ ⟨k, by omega, by simp [uI_1], by simp [uI_1], fun i hi => ?_⟩)
      have e1 : (uI σc 9 0 1 (nI k)).1 37 0 i = σc.1 37 0 i := by simp [uI_1]
      have e2 : (uI σm 11 0 30 (nI k)).1 70 0 i = σm.1 70 0 i := by simp [uI_1]
      rw [e1, e2]
      exact t4 i (by omega)
