/-! CALLS: barracks -/
/-- what stays of the reference when a new camp begins -/
def Fn (k i j : Nat) : Prop := i = 0 ∧ (k = 42 ∨ (43 ≤ k ∧ k ≤ 51) ∨ (62 ≤ k ∧ k ≤ 65) ∨ (67 ≤ k ∧ k ≤ 69) ∨ (k = 11 ∧ j = 30))
theorem x11_begin {σ : zH} (hf : σ.1 11 0 32 = 0) : zwp (j_X11_barracks_53 σ) (fun p => (∀ k i j, ¬ Fn k i j → p.1.1 k i j = σ.1 k i j) ∧ (∀ j, j < 4 → p.1.1 42 0 j = σ.1 52 0 j) ∧ p.1.1 42 0 4 = 0 ∧ p.1.1 42 0 5 = 0 ∧ p.1.1 42 0 6 = -2 ∧ p.1.1 42 0 7 = 0 ∧ p.1.1 42 0 8 = 0 ∧ p.1.1 42 0 9 = 0 ∧ p.1.1 42 0 10 = σ.1 42 0 10 ∧
    (∀ r j, r < 4 → j < 12 → p.1.1 (43 + r) 0 j = σ.1 (53 + r) 0 j) ∧ (∀ r j, r < 5 → j < 8 → p.1.1 (47 + r) 0 j = σ.1 (57 + r) 0 j) ∧ (∀ r j, r < 7 → j < 12 → p.1.1 (mrow r) 0 j = qD0 (σ.1 42 0 10) r j) ∧ p.1.1 11 0 30 = 0 ∧ p.2 = σ.1 52 0 0) := by
  unfold j_X11_barracks_53
  simp only [zlet]
  have e32 : (uI σ 11 0 30 0).1 11 0 32 = 0 := by rw [uI_1, if_neg (by omega)]; exact hf
  rw [e32, if_neg (show ¬ (0 : Int32) < 0 by decide)]
  generalize hσ1 : uI σ 11 0 30 0 = σ1
  have u1 : ∀ k i j, ¬ (k = 11 ∧ i = 0 ∧ j = 30) → σ1.1 k i j = σ.1 k i j := fun k i j hk => by rw [← hσ1, uI_1, if_neg hk]
  have u30 : σ1.1 11 0 30 = 0 := by rw [← hσ1, uI_1, if_pos ⟨rfl, rfl, rfl⟩]
  refine zwp_to (x11_lay2 (L := 4) (M := 11) (by omega) (by decide +kernel) (by decide +kernel) (by decide +kernel) (by decide +kernel) (by omega) (by omega) σ1) (fun τ1 h1 => ?_)
  refine zwp_to (x11_lay2 (L := 12) (M := 12) (by omega) (by decide +kernel) (by decide +kernel) (by decide +kernel) (by decide +kernel) (by omega) (by omega) τ1) (fun τ2 h2 => ?_)
  refine zwp_to (x11_lay2 (L := 12) (M := 12) (by omega) (by decide +kernel) (by decide +kernel) (by decide +kernel) (by decide +kernel) (by omega) (by omega) τ2) (fun τ3 h3 => ?_)
  refine zwp_to (x11_lay2 (L := 12) (M := 12) (by omega) (by decide +kernel) (by decide +kernel) (by decide +kernel) (by decide +kernel) (by omega) (by omega) τ3) (fun τ4 h4 => ?_)
  refine zwp_to (x11_lay2 (L := 12) (M := 12) (by omega) (by decide +kernel) (by decide +kernel) (by decide +kernel) (by decide +kernel) (by omega) (by omega) τ4) (fun τ5 h5 => ?_)
  refine zwp_to (x11_lay2 (L := 8) (M := 8) (by omega) (by decide +kernel) (by decide +kernel) (by decide +kernel) (by decide +kernel) (by omega) (by omega) τ5) (fun τ6 h6 => ?_)
  refine zwp_to (x11_lay2 (L := 8) (M := 8) (by omega) (by decide +kernel) (by decide +kernel) (by decide +kernel) (by decide +kernel) (by omega) (by omega) τ6) (fun τ7 h7 => ?_)
  refine zwp_to (x11_lay2 (L := 8) (M := 8) (by omega) (by decide +kernel) (by decide +kernel) (by decide +kernel) (by decide +kernel) (by omega) (by omega) τ7) (fun τ8 h8 => ?_)
  refine zwp_to (x11_lay2 (L := 8) (M := 8) (by omega) (by decide +kernel) (by decide +kernel) (by decide +kernel) (by decide +kernel) (by omega) (by omega) τ8) (fun τ9 h9 => ?_)
  refine zwp_to (x11_lay2 (L := 8) (M := 8) (by omega) (by decide +kernel) (by decide +kernel) (by decide +kernel) (by decide +kernel) (by omega) (by omega) τ9) (fun τ10 h10 => ?_)
  have fr : ∀ k i j, ¬ (i = 0 ∧ (k = 42 ∨ (43 ≤ k ∧ k ≤ 51))) → τ10.1 k i j = σ1.1 k i j := fun k i j hk => by
    rw [h10.1 _ _ _ (by omega), h9.1 _ _ _ (by omega), h8.1 _ _ _ (by omega), h7.1 _ _ _ (by omega), h6.1 _ _ _ (by omega), h5.1 _ _ _ (by omega), h4.1 _ _ _ (by omega), h3.1 _ _ _ (by omega), h2.1 _ _ _ (by omega), h1.1 _ _ _ (by omega)]
  have k42 : ∀ j, τ10.1 42 0 j = τ1.1 42 0 j := fun j => by
    rw [h10.1 _ _ _ (by omega), h9.1 _ _ _ (by omega), h8.1 _ _ _ (by omega), h7.1 _ _ _ (by omega), h6.1 _ _ _ (by omega), h5.1 _ _ _ (by omega), h4.1 _ _ _ (by omega), h3.1 _ _ _ (by omega), h2.1 _ _ _ (by omega)]
  have ka : ∀ r j, r < 4 → j < 12 → τ10.1 (43 + r) 0 j = σ.1 (53 + r) 0 j := fun r j hr hj => by
    have : r = 0 ∨ r = 1 ∨ r = 2 ∨ r = 3 := by omega
    rcases this with rfl | rfl | rfl | rfl
    · rw [h10.1 _ _ _ (by omega), h9.1 _ _ _ (by omega), h8.1 _ _ _ (by omega), h7.1 _ _ _ (by omega), h6.1 _ _ _ (by omega), h5.1 _ _ _ (by omega), h4.1 _ _ _ (by omega), h3.1 _ _ _ (by omega), h2.2 _ hj, h1.1 _ _ _ (by omega), u1 _ _ _ (by omega)]
    · rw [h10.1 _ _ _ (by omega), h9.1 _ _ _ (by omega), h8.1 _ _ _ (by omega), h7.1 _ _ _ (by omega), h6.1 _ _ _ (by omega), h5.1 _ _ _ (by omega), h4.1 _ _ _ (by omega), h3.2 _ hj, h2.1 _ _ _ (by omega), h1.1 _ _ _ (by omega), u1 _ _ _ (by omega)]
    · rw [h10.1 _ _ _ (by omega), h9.1 _ _ _ (by omega), h8.1 _ _ _ (by omega), h7.1 _ _ _ (by omega), h6.1 _ _ _ (by omega), h5.1 _ _ _ (by omega), h4.2 _ hj, h3.1 _ _ _ (by omega), h2.1 _ _ _ (by omega), h1.1 _ _ _ (by omega), u1 _ _ _ (by omega)]
    · rw [h10.1 _ _ _ (by omega), h9.1 _ _ _ (by omega), h8.1 _ _ _ (by omega), h7.1 _ _ _ (by omega), h6.1 _ _ _ (by omega), h5.2 _ hj, h4.1 _ _ _ (by omega), h3.1 _ _ _ (by omega), h2.1 _ _ _ (by omega), h1.1 _ _ _ (by omega), u1 _ _ _ (by omega)]
  have kb : ∀ r j, r < 5 → j < 8 → τ10.1 (47 + r) 0 j = σ.1 (57 + r) 0 j := fun r j hr hj => by
    have b5 : ∀ k, 57 ≤ k → τ5.1 k 0 j = σ.1 k 0 j := fun k hk => by rw [h5.1 _ _ _ (by omega), h4.1 _ _ _ (by omega), h3.1 _ _ _ (by omega), h2.1 _ _ _ (by omega), h1.1 _ _ _ (by omega), u1 _ _ _ (by omega)]
    have : r = 0 ∨ r = 1 ∨ r = 2 ∨ r = 3 ∨ r = 4 := by omega
    rcases this with rfl | rfl | rfl | rfl | rfl
    · rw [h10.1 _ _ _ (by omega), h9.1 _ _ _ (by omega), h8.1 _ _ _ (by omega), h7.1 _ _ _ (by omega), h6.2 _ hj, b5 _ (by omega)]
    · rw [h10.1 _ _ _ (by omega), h9.1 _ _ _ (by omega), h8.1 _ _ _ (by omega), h7.2 _ hj, h6.1 _ _ _ (by omega), b5 _ (by omega)]
    · rw [h10.1 _ _ _ (by omega), h9.1 _ _ _ (by omega), h8.2 _ hj, h7.1 _ _ _ (by omega), h6.1 _ _ _ (by omega), b5 _ (by omega)]
    · rw [h10.1 _ _ _ (by omega), h9.2 _ hj, h8.1 _ _ _ (by omega), h7.1 _ _ _ (by omega), h6.1 _ _ _ (by omega), b5 _ (by omega)]
    · rw [h10.2 _ hj, h9.1 _ _ _ (by omega), h8.1 _ _ _ (by omega), h7.1 _ _ _ (by omega), h6.1 _ _ _ (by omega), b5 _ (by omega)]
  rw [show k_X11_barracks_185 j_X11_barracks_247 zN τ10 (0 : Int32) = k_X11_barracks_185 j_X11_barracks_247 zN τ10 (nI 0) by rw [nI_0]]
  refine zwp_for (fun f i (τ' : zH) => k_X11_barracks_185 j_X11_barracks_247 f τ' (nI i)) (fun i τ' => (∀ k i' j, ¬ (i' = 0 ∧ ((62 ≤ k ∧ k ≤ 65) ∨ (67 ≤ k ∧ k ≤ 69))) → τ'.1 k i' j = τ10.1 k i' j) ∧ ∀ k j, (62 ≤ k ∧ k ≤ 65) ∨ (67 ≤ k ∧ k ≤ 69) → j < i → τ'.1 k 0 j = if k = 65 then -100 else if k = 69 then -1 else 0) _ 0 12 (by omega) (by omega) ?_ ?_ τ10 ⟨fun _ _ _ _ => rfl, fun k j _ hj => by omega⟩
  · rintro f i τ' hi ⟨g2, g3⟩ IH
    rw [k_X11_barracks_185, if_pos (show nI i < (12 : Int32) from nI_lt (b := 12) hi (by omega))]
    simp only [ix_nI hi (show 12 < 2 ^ 31 by omega), zlet]
    rw [nI_1]
    refine IH _ ⟨fun k i' j hk => ?_, fun k j hk hj => ?_⟩
    · rw [uI_1, if_neg (by omega), uI_1, if_neg (by omega), uI_1, if_neg (by omega), uI_1, if_neg (by omega), uI_1, if_neg (by omega), uI_1, if_neg (by omega), uI_1, if_neg (by omega)]
      exact g2 k i' j hk
    · by_cases e : j = i
      · subst e
        have : k = 62 ∨ k = 63 ∨ k = 64 ∨ k = 65 ∨ k = 67 ∨ k = 68 ∨ k = 69 := by omega
        rcases this with rfl | rfl | rfl | rfl | rfl | rfl | rfl <;> simp [uI_1]
      · rw [uI_1, if_neg (by omega), uI_1, if_neg (by omega), uI_1, if_neg (by omega), uI_1, if_neg (by omega), uI_1, if_neg (by omega), uI_1, if_neg (by omega), uI_1, if_neg (by omega)]
        exact g3 k j hk (by omega)
  · rintro f τ' ⟨g2, g3⟩
    rw [k_X11_barracks_185, if_neg (show ¬ nI 12 < (12 : Int32) from nI_nlt (b := 12) (by omega) (by omega))]
    unfold j_X11_barracks_247
    simp only [zlet]
    have c : ∀ k i j, ¬ (k = 42 ∧ i = 0 ∧ 4 ≤ j ∧ j ≤ 9) → (uI (uI (uI (uI (uI (uI τ' 42 0 4 0) 42 0 5 0) 42 0 6 (-2)) 42 0 7 0) 42 0 8 0) 42 0 9 0).1 k i j = τ'.1 k i j := fun k i j hk => by
      rw [uI_1, if_neg (by omega), uI_1, if_neg (by omega), uI_1, if_neg (by omega), uI_1, if_neg (by omega), uI_1, if_neg (by omega), uI_1, if_neg (by omega)]
    have t42 : ∀ j, τ'.1 42 0 j = τ1.1 42 0 j := fun j => by rw [g2 _ _ _ (by omega), k42]
    have q0 : ∀ j, j < 4 → (uI (uI (uI (uI (uI (uI τ' 42 0 4 0) 42 0 5 0) 42 0 6 (-2)) 42 0 7 0) 42 0 8 0) 42 0 9 0).1 42 0 j = σ.1 52 0 j := fun j hj => by
      rw [c _ _ _ (by omega), t42, h1.2 _ hj, u1 _ _ _ (by omega)]
    refine zwp_some.mpr ⟨fun k i j hk => ?_, q0, by simp [uI_1], by simp [uI_1], by simp [uI_1], by simp [uI_1], by simp [uI_1], by simp [uI_1], ?_, fun r j hr hj => ?_, fun r j hr hj => ?_, fun r j hr hj => ?_, ?_, q0 0 (by omega)⟩
    · unfold Fn at hk
      rw [c _ _ _ (by omega), g2 _ _ _ (by omega), fr _ _ _ (by omega), u1 _ _ _ (by omega)]
    · rw [c _ _ _ (by omega), t42, h1.1 _ _ _ (by omega), u1 _ _ _ (by omega)]
    · rw [c _ _ _ (by omega), g2 _ _ _ (by omega)]; exact ka r j hr hj
    · rw [c _ _ _ (by omega), g2 _ _ _ (by omega)]; exact kb r j hr hj
    · have hm := mrow_lt hr
      have : r = 0 ∨ r = 1 ∨ r = 2 ∨ r = 3 ∨ r = 4 ∨ r = 5 ∨ r = 6 := by omega
      rw [c _ _ _ (by omega)]
      rcases this with rfl | rfl | rfl | rfl | rfl | rfl | rfl <;> (rw [g3 _ _ (by decide) hj]; rfl)
    · rw [c _ _ _ (by omega), g2 _ _ _ (by omega), fr _ _ _ (by omega)]; exact u30
theorem Fb_Gc {k i : Nat} (h : Fb k i) : Gc k i := by
  unfold Fb at h
  unfold Gc
  omega
theorem ms2_Fbm {σ τ : zH} (h : ∀ k j, ¬ Fbm k j → τ.1 k 0 j = σ.1 k 0 j) : ms2 σ τ := by
  refine ⟨fun k hk => funext fun j => h k j ?_, fun j hj => h 42 j ?_, fun k a b j hj => h k j ?_, fun j hj => h 11 j ?_⟩ <;> (unfold Fbm; omega)
theorem ix_c0 {α : Type} {n : Nat} (hn : 0 < n) (h : n < 2 ^ 31) {x : Int32} (e : x = 0) (F : Nat → Option α) : ix x n F = F 0 := by rw [e]; exact ix_0 hn h F
theorem x11_b11s (c29 : zH → Option (zH × Int32)) (f : Nat) (σ : zH) {x : Nat} (hx : x < 4) : k_X11_barracks_11 c29 (f + 1) σ (nI x) = k_X11_barracks_11 c29 f (uI σ 52 0 x 0) (nI (x + 1)) := by
  rw [k_X11_barracks_11, if_pos (show nI x < (4 : Int32) from nI_lt (b := 4) hx (by omega)), ix_nI hx (by omega), nI_1]
  rfl
theorem x11_b11 (c29 : zH → Option (zH × Int32)) (σ : zH) : k_X11_barracks_11 c29 zN σ (0 : Int32) = c29 (uI (uI (uI (uI σ 52 0 0 0) 52 0 1 0) 52 0 2 0) 52 0 3 0) := by
  rw [show k_X11_barracks_11 c29 zN σ (0 : Int32) = k_X11_barracks_11 c29 zN σ (nI 0) by rw [nI_0], show zN = 4091 + 1 + 1 + 1 + 1 + 1 from zN_eq, x11_b11s _ _ _ (by omega), x11_b11s _ _ _ (by omega), x11_b11s _ _ _ (by omega), x11_b11s _ _ _ (by omega), k_X11_barracks_11, if_neg (show ¬ nI (0 + 1 + 1 + 1 + 1) < (4 : Int32) from nI_nlt (b := 4) (by omega) (by omega))]
theorem r_read {σc σm : zH} (h : qR σc σm) : ∃ c' m' f', d_X1_readCamp σc 0 = some (c', f') ∧ d_X11_barracks σm = j_X11_barracks_53 m' ∧ zsm Fb σc c' ∧ (∀ kk j, ¬ Fbm kk j → m'.1 kk 0 j = σm.1 kk 0 j) ∧ m'.1 11 0 32 = f' ∧ 0 ≤ f'.toInt ∧ (f' = 0 → ∃ n bl d, BB c' m' n bl d) := by
  obtain ⟨t, t1, t2, t3, t4⟩ := h.1
  unfold d_X1_readCamp d_X0_clear d_X7_begin d_X11_barracks d_X11_starts
  simp only [zlet, Option.bind_some]
  rw [ix_c0 (by omega) (by omega) (show (uI σc 1 0 1 (Int32.ofNat 0)).1 1 0 1 = 0 by simp [uI_1])]
  generalize hc : uI (uI (uI (uI (uI (uI (uI (uI σc 1 0 1 (Int32.ofNat 0)) 0 0 0 0) 0 0 5 0) 0 0 8 0) 0 0 12 0) 1 0 3 0) 7 0 1 0) 7 0 5 0 = c1
  generalize hm : uI (uI (uI (uI (uI (uI σm 11 0 31 0) 11 0 32 0) 11 0 35 0) 11 0 36 0) 11 0 37 0) 11 0 40 0 = m1
  have cz : zsm Fb σc c1 := by
    rw [← hc]
    refine (((((((zsm.rf.uI ?_ _ _).uI ?_ _ _).uI ?_ _ _).uI ?_ _ _).uI ?_ _ _).uI ?_ _ _).uI ?_ _ _).uI ?_ _ _ <;> (unfold Fb; omega)
  have cu : ∀ k j, ¬ (k = 1 ∧ (j = 1 ∨ j = 3)) → ¬ (k = 0 ∧ (j = 0 ∨ j = 5 ∨ j = 8 ∨ j = 12)) → ¬ (k = 7 ∧ (j = 1 ∨ j = 5)) → c1.1 k 0 j = σc.1 k 0 j := fun k j q1 q2 q3 => by
    rw [← hc, uI_1, if_neg (by omega), uI_1, if_neg (by omega), uI_1, if_neg (by omega), uI_1, if_neg (by omega), uI_1, if_neg (by omega), uI_1, if_neg (by omega), uI_1, if_neg (by omega), uI_1, if_neg (by omega)]
  have mu : ∀ k j, ¬ (k = 11 ∧ (j = 31 ∨ j = 32 ∨ j = 35 ∨ j = 36 ∨ j = 37 ∨ j = 40)) → m1.1 k 0 j = σm.1 k 0 j := fun k j q => by
    rw [← hm, uI_1, if_neg (by omega), uI_1, if_neg (by omega), uI_1, if_neg (by omega), uI_1, if_neg (by omega), uI_1, if_neg (by omega), uI_1, if_neg (by omega)]
  rw [x11_b11]
  generalize hm2 : uI (uI (uI (uI m1 52 0 0 0) 52 0 1 0) 52 0 2 0) 52 0 3 0 = m2
  have mu2 : ∀ k j, ¬ (k = 52 ∧ j < 4) → ¬ (k = 11 ∧ (j = 31 ∨ j = 32 ∨ j = 35 ∨ j = 36 ∨ j = 37 ∨ j = 40)) → m2.1 k 0 j = σm.1 k 0 j := fun k j q q2 => by
    rw [← hm2, uI_1, if_neg (by omega), uI_1, if_neg (by omega), uI_1, if_neg (by omega), uI_1, if_neg (by omega)]; exact mu k j q2
  have m11 : ∀ j, m2.1 11 0 j = m1.1 11 0 j := fun j => by
    rw [← hm2, uI_1, if_neg (by omega), uI_1, if_neg (by omega), uI_1, if_neg (by omega), uI_1, if_neg (by omega)]
  have m52 : ∀ j, j < 4 → m2.1 52 0 j = 0 := fun j hj => by
    have : j = 0 ∨ j = 1 ∨ j = 2 ∨ j = 3 := by omega
    rw [← hm2]
    rcases this with rfl | rfl | rfl | rfl <;> simp [uI_1]
  have S : ST (σc.1 37 0) t σc σm c1 m2 0 0 := by
    refine ⟨⟨t1, by rw [cu _ _ (by omega) (by omega) (by omega)]; exact t2, fun i hi => cu _ _ (by omega) (by omega) (by omega)⟩, ⟨t1, by rw [mu2 _ _ (by omega) (by omega)]; exact t3, fun i hi => ?_⟩, cz, fun k j hk => mu2 k j (fun q => hk (Or.inl (by omega))) (fun q => hk (Or.inr (by omega))), ?_, ?_, ?_, by omega, fun _ => ?_, by decide⟩
    · rw [mu2 _ _ (by omega) (by omega)]
      obtain ⟨q1, q2⟩ := t4 i hi
      exact ⟨q1.symm, q2⟩
    · rw [← hc]; simp [uI_1]
    · rw [m11, ← hm]; simp [uI_1]
    · rw [m11, ← hm]; simp [uI_1, nI_0]
    · rw [← hc]; simp [uI_1, nI_0]
  have B : BB c1 m2 0 0 0 := by
    refine ⟨by rw [← hc]; simp [uI_1], ⟨by omega, by omega, by omega⟩, ⟨by rw [← hc]; simp [uI_1, nI_0], by rw [← hc]; simp [uI_1, nI_0], by rw [← hc]; simp [uI_1, nI_0]⟩, ⟨by rw [m52 _ (by omega), nI_0], by rw [m52 _ (by omega), nI_0], by rw [m52 _ (by omega), nI_0]⟩, by rw [m52 _ (by omega), ← hc]; simp [uI_1], ⟨false, by rw [← hc]; simp [uI_1, b2i], by rw [m11, ← hm]; simp [uI_1, b2i]⟩, fun _ _ _ q => by omega, fun _ q => by omega, fun _ _ _ q => by omega, fun _ _ _ q => by omega⟩
  obtain ⟨c', m', f', o1, o2, o3, o4, o5, o6, o7⟩ := b_loop j_X11_barracks_53 24 0 c1 m2 0 0 0 0 zN zN (by omega) (by rw [zN_eq]; omega) (by rw [zN_eq]; omega) S B
  rw [nI_0] at o1 o2
  unfold j_X11_barracks_29
  exact ⟨c', m', f', o1, o2, o3, o4, o5, o6, o7⟩
theorem frT_clear (σc σm : zH) : frT σc σm (uI σc 9 0 1 0) (uI σm 11 0 30 0) := ⟨zsm.rf.uI (Or.inl rfl) _ _, zsm.rf.uI (Or.inl rfl) _ _, fun j hj => by simp [uI_1, hj]⟩
theorem rTape_0 {σc σm : zH} (h1 : σc.1 9 0 1 = 0) (h2 : σm.1 11 0 30 = 0) : rTape σc σm := ⟨0, by omega, by rw [h1, nI_0], by rw [h2, nI_0], fun i hi => by omega⟩
theorem r_barracks {σc σm : zH} (h : qR σc σm) : zrel (d_X10_barracks σc) (d_X11_barracks σm) qR := by
  obtain ⟨c', m', f', e1, e2, z, y, f1, f2, B⟩ := r_read h
  have h1 : qR c' m' := (h.c (z.mono (fun k i q => Fb_Gc q))).m (ms2_Fbm y)
  unfold d_X10_barracks
  rw [e1, e2]
  simp only [Option.bind_some, zlet]
  by_cases hf : f' = 0
  · obtain ⟨n, bl, d, b1, ⟨b2, b3, b4⟩, ⟨b5, b6, b7⟩, ⟨b8, b9, b10⟩, b11, -, b14, b15, b16, b17⟩ := B hf
    rw [if_pos hf]
    obtain ⟨-, rl, ⟨E, wt, D, v⟩, im, w39, men⟩ := h1
    obtain ⟨p, m, -, -, -, -, ⟨sz, q, lq1, lq2, lq3, -⟩, -⟩ := v
    have x2 : c'.1 8 0 2 = m'.1 42 0 10 := by rw [p.2.1.2.1, m.2.1.2.1]
    have x0 : 0 ≤ (m'.1 42 0 10).toInt := by rw [m.2.1.2.1]; exact m.2.2.1.2.1
    have cu : ∀ k i j, k ≠ 9 → (uI c' 9 0 1 0).1 k i j = c'.1 k i j := fun k i j hk => by rw [uI_1, if_neg (by omega)]
    obtain ⟨c2, g1, g2, g3, g4, g5, g6, g7, g8⟩ := x8_begin (σ := uI c' 9 0 1 0) b2 b3 b4 (by rw [cu _ _ _ (by omega)]; exact b5) (by rw [cu _ _ _ (by omega)]; exact b6) (by rw [cu _ _ _ (by omega)]; exact b7) (x := m'.1 42 0 10) (by rw [cu _ _ _ (by omega)]; exact x2) x0
    obtain ⟨⟨m2, v2⟩, k1, k2, k3, k4, k5, k6, k7, k8, k9, k10, ka, kb, kr, k30, kv⟩ := x11_begin (σ := m') (by rw [f1]; exact hf)
    dsimp only at k2 k3 k4 k5 k6 k7 k8 k9 k10 ka kb kr k30 kv
    unfold d_X6_clear
    rw [g1, k1]
    simp only [Option.bind_some, zlet]
    have z2 : ∀ k i j, k ≠ 9 → ¬ Fs 0 k i → c2.1 k i j = c'.1 k i j := fun k i j q1 q2 => by rw [(g2 k i q2).1]; exact cu k i j q1
    have z3 : ∀ k i j, k ≠ 9 → ¬ (k = 6 ∧ i = 0) → ¬ Fs 0 k i → (uI c2 6 0 2 0).1 k i j = c'.1 k i j := fun k i j q1 q2 q3 => by rw [uI_1, if_neg (by omega)]; exact z2 k i j q1 q3
    have w3 : ∀ k i j, k ≠ 6 → (uI c2 6 0 2 0).1 k i j = c2.1 k i j := fun k i j q => by rw [uI_1, if_neg (by omega)]
    have hv : (uI c2 6 0 2 0).1 0 0 0 = v2 := by
      rw [z3 _ _ _ (by omega) (by omega) (by unfold Fs F8; omega), kv, b5, b8]
    refine ⟨uI c2 6 0 2 0, m2, v2, by rw [hv], rfl, rTape_0 ?_ k30, rl.mv ?_ (fun k r hk => ?_) ?_ (fun k hk => ?_), ⟨qE0 (uI c' 9 0 1 0) 0 n bl d, (uI c' 9 0 1 0).1 0 0 12, qD0 (m'.1 42 0 10), ?_⟩, im.mv ?_ (fun k i hk hi => ?_) (fun k i hk hi => ?_) ?_ ?_ ?_, ?_, fun s s1 s5 => ?_⟩
    · rw [w3 _ _ _ (by omega), (g2 9 0 (by unfold Fs F8; omega)).1]; simp [uI_1]
    · exact z3 _ _ _ (by omega) (by omega) (by unfold Fs F8; omega)
    · exact funext fun j => z3 _ _ _ (by omega) (by omega) (by unfold Fs F8; omega)
    · exact k2 _ _ _ (by unfold Fn; omega)
    · exact funext fun j => k2 _ _ _ (by unfold Fn; omega)
    · have P : rP 0 (uI c2 6 0 2 0) 0 (qE0 (uI c' 9 0 1 0) 0 n bl d) ((uI c' 9 0 1 0).1 0 0 12) (qD0 (m'.1 42 0 10)) := g3.mvF (fun k hk => funext fun j => w3 _ _ _ (by omega)) (fun k hk => funext fun j => w3 _ _ _ (by omega))
      have M : rMC m2 (-1) (qE0 (uI c' 9 0 1 0) 0 n bl d) := rMC_e0 b2 b3 b4 (by rw [k3 _ (by omega)]; exact b8) (by rw [k3 _ (by omega)]; exact b9) (by rw [k3 _ (by omega)]; exact b10) k8 (by rw [k2 _ _ _ (by unfold Fn; omega)]; exact m.1.2.2.2.2.2.2) (fun r i hr hi => by rw [ka _ _ hr (by omega), cu _ _ _ (by omega)]; exact (b14 r i hr hi).symm) (fun r i hr hi => by rw [kb _ _ (by omega) (by omega), cu _ _ _ (by omega)]; exact (b16 r i hr hi).symm) (fun r i hr hi => by
        rw [show 49 + r = 47 + (2 + r) by omega, kb _ _ (by omega) (by omega), cu _ _ _ (by omega), show 57 + (2 + r) = 59 + r by omega]; exact (b17 r i hr hi).symm)
      refine ⟨P, ⟨M, ⟨k4, k10, by rw [k7]; exact (Int32.add_zero _).symm, fun r i hr hi => kr r i hr (by have : i < n := hi; omega)⟩, g3.2.2.1, by rw [k3 _ (by omega), cu _ _ _ (by omega)]; exact b11.symm⟩, ⟨by rw [w3 _ _ _ (by omega), k5]; exact g4, by rw [w3 _ _ _ (by omega), k6]; exact g5⟩, by rw [k5]; exact ⟨by decide, by show (0 : Int32).toInt ≤ (0 : Int32).toInt; decide⟩, ⟨fun _ => k6, fun _ => k5⟩, by show (0 : Int32).toInt ≤ 9999; decide, ⟨0, q, by omega, lq2, ?_, by rw [uI_1, if_pos ⟨rfl, rfl, rfl⟩, nI_0], by rw [k9, nI_0], fun k q1 q2 => by omega⟩, ?_, bl, b3, ?_, ?_, fun i hi => ⟨?_, ?_⟩⟩
      · rw [uI_1, if_neg (by omega), z2 _ _ _ (by omega) (by unfold Fs F8; omega)]; exact lq3
      · rw [w3 _ _ _ (by omega), show c2.1 0 (0 + 1) 8 = _ from g6 8 (by omega), cu _ _ _ (by omega), b7, k3 _ (by omega), b10]
      · rw [w3 _ _ _ (by omega), show c2.1 0 (0 + 1) 5 = _ from g6 5 (by omega), cu _ _ _ (by omega), b6]
      · rw [k3 _ (by omega), b9]
      · rw [w3 _ _ _ (by omega), show c2.1 16 (0 + 1) i = _ from g8 16 i (by omega) (by omega) (by omega), cu _ _ _ (by omega), show m2.1 47 0 i = _ from kb 0 i (by omega) (by omega)]
        exact b16 0 i (by omega) hi
      · rw [w3 _ _ _ (by omega), show c2.1 17 (0 + 1) i = _ from g8 17 i (by omega) (by omega) (by omega), cu _ _ _ (by omega), show m2.1 48 0 i = _ from kb 1 i (by omega) (by omega)]
        exact b16 1 i (by omega) hi
    · exact funext fun j => z3 _ _ _ (by omega) (by omega) (by unfold Fs F8; omega)
    · exact funext fun j => z3 _ _ _ (by omega) (by omega) (by unfold Fs F8; omega)
    · exact funext fun j => z3 _ _ _ (by omega) (by omega) (by unfold Fs F8; omega)
    · exact funext fun j => k2 _ _ _ (by unfold Fn; omega)
    · exact funext fun j => k2 _ _ _ (by unfold Fn; omega)
    · exact k2 _ _ _ (by unfold Fn; omega)
    · rw [k2 _ _ _ (by unfold Fn; omega)]; exact w39
    · by_cases e : s = 1
      · subst e
        intro n' i q1 q2 q3
        rw [w3 _ _ _ (by omega), g6 0 (by omega), cu _ _ _ (by omega), b5] at q1
        have : n = n' := (nI_eq (by omega) (by omega)).mp q1
        rw [w3 _ _ _ (by omega), g7 12 i (by omega) (by omega) (by omega), cu _ _ _ (by omega)]
        exact b15 i (by omega)
      · have a := men s s1 s5
        rw [show (uI c2 6 0 2 0).1 0 s 0 = c'.1 0 s 0 from z3 _ _ _ (by omega) (by omega) (by unfold Fs F8; omega), show (uI c2 6 0 2 0).1 12 s = c'.1 12 s from funext fun j => z3 _ _ _ (by omega) (by omega) (by unfold Fs F8; omega)]
        exact a
  · rw [if_neg hf]
    unfold j_X11_barracks_53
    simp only [zlet]
    have e32 : (uI m' 11 0 30 0).1 11 0 32 = f' := by rw [uI_1, if_neg (by omega)]; exact f1
    have hp : (0 : Int32) < f' := by
      rw [fa_lt, i32_0]
      rw [fa_eq, i32_0] at hf
      omega
    rw [e32, if_pos hp]
    exact zrel_same (h1.t (frT_clear _ _) (rTape_0 (by simp [uI_1]) (by simp [uI_1])))
