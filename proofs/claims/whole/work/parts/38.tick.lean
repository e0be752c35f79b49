/-! CALLS: tick -/
theorem zrel_loop (k1 k2 : Nat → Nat → zH → Option (zH × Int32)) (I : Nat → zH → zH → Prop) (Q : zH → zH → Prop) (n : Nat)
    (step : ∀ f g i a b, i < n → I i a b → ∃ a' b', I (i + 1) a' b' ∧ k1 (f + 1) i a = k1 f (i + 1) a' ∧ k2 (g + 1) i b = k2 g (i + 1) b')
    (done : ∀ f g a b, I n a b → zrel (k1 (f + 1) n a) (k2 (g + 1) n b) Q) : ∀ (d i f g : Nat) (a b : zH), i + d = n → d < f → d < g → I i a b → zrel (k1 f i a) (k2 g i b) Q
  | 0, i, f, g, a, b, h, hf, hg, hI => by
    have e : i = n := by omega
    subst e
    obtain ⟨f, rfl⟩ : ∃ f', f = f' + 1 := ⟨f - 1, by omega⟩
    obtain ⟨g, rfl⟩ : ∃ g', g = g' + 1 := ⟨g - 1, by omega⟩
    exact done f g a b hI
  | d + 1, i, f, g, a, b, h, hf, hg, hI => by
    obtain ⟨f, rfl⟩ : ∃ f', f = f' + 1 := ⟨f - 1, by omega⟩
    obtain ⟨g, rfl⟩ : ∃ g', g = g' + 1 := ⟨g - 1, by omega⟩
    obtain ⟨a', b', h1, h2, h3⟩ := step f g i a b (by omega) hI
    rw [h2, h3]
    exact zrel_loop k1 k2 I Q n step done d (i + 1) f g a' b' (by omega) (by omega) (by omega) h1
theorem zrel_for (k1 k2 : Nat → Nat → zH → Option (zH × Int32)) (I : Nat → zH → zH → Prop) (Q : zH → zH → Prop) (n : Nat) (hn : n < 4000)
    (step : ∀ f g i a b, i < n → I i a b → ∃ a' b', I (i + 1) a' b' ∧ k1 (f + 1) i a = k1 f (i + 1) a' ∧ k2 (g + 1) i b = k2 g (i + 1) b')
    (done : ∀ f g a b, I n a b → zrel (k1 (f + 1) n a) (k2 (g + 1) n b) Q) (a b : zH) (h0 : I 0 a b) : zrel (k1 zN 0 a) (k2 zN 0 b) Q :=
  zrel_loop k1 k2 I Q n step done n 0 zN zN a b (by omega) (by rw [zN_eq]; omega) (by rw [zN_eq]; omega) h0
theorem x8_upBits {W : Int32} {σ : zH} {s : Nat} {E : qE} {D : qD} (hC : rC σ (s + 1) E) (hS : rS W σ s E D) : d_X8_upBits σ s = some (σ, qmask (qup D) (qeN E)) := by
  have hn := hC.1
  unfold d_X8_upBits
  rw [hC.2.1, hS.2.2.2.1]
  congr 2
  refine b_ext (fun i hi => ?_)
  rw [b_and, bt_full _ (by omega) i hi, bt_not _ hi, bt_mask _ _ (by omega) i hi, bt_mask _ _ (by omega) i hi]
  unfold qdown qup
  by_cases h : i < qeN E
  · rw [decide_eq_true h]; simp
  · rw [decide_eq_false h]; simp
theorem x6_add {σ : zH} {s sz q : Nat} (hsz : sz ≤ 192) (hq : q ≤ 192) (h1 : σ.1 6 s 1 + 1 = nI q) (h2 : σ.1 6 s 2 = nI sz) (up : Int32) : zwp (d_X6_add σ s up) (fun σ' => zsm (fun k i => (k = 6 ∨ k = 30) ∧ i = s) σ σ' ∧
    ∃ q', q' ≤ 192 ∧ σ'.1 6 s 1 + 1 = nI q' ∧ σ'.1 6 s 2 = nI (if sz < 192 then sz + 1 else 192) ∧ σ'.1 30 s ((q' + 192 - 1) % 192) = up ∧ ∀ k, 2 ≤ k → k ≤ 192 → σ'.1 30 s ((q' + 192 - k) % 192) = σ.1 30 s ((q + 192 - (k - 1)) % 192)) := by
  have key : ∀ p, p < 192 → p % 192 = q % 192 → zwp (j_X6_add_23 σ s up s (nI p)) (fun σ' => zsm (fun k i => (k = 6 ∨ k = 30) ∧ i = s) σ σ' ∧
    ∃ q', q' ≤ 192 ∧ σ'.1 6 s 1 + 1 = nI q' ∧ σ'.1 6 s 2 = nI (if sz < 192 then sz + 1 else 192) ∧ σ'.1 30 s ((q' + 192 - 1) % 192) = up ∧ ∀ k, 2 ≤ k → k ≤ 192 → σ'.1 30 s ((q' + 192 - k) % 192) = σ.1 30 s ((q + 192 - (k - 1)) % 192)) := fun p hp hpq => by
    unfold j_X6_add_23
    simp only [zlet]
    have e1 : (uI σ 6 s 1 (nI p)).1 6 s 1 = nI p := by simp [uI_1]
    rw [e1, ix_nI hp (by omega), Nat.add_zero]
    have e2 : (uI (uI σ 6 s 1 (nI p)) 30 s p up).1 6 s 2 = nI sz := by simpa [uI_1] using h2
    rw [e2]
    refine zwp_some.mpr ⟨((zsm.rf.uI ⟨Or.inl rfl, rfl⟩ _ _).uI ⟨Or.inr rfl, rfl⟩ _ _).uI ⟨Or.inl rfl, rfl⟩ _ _, p + 1, by omega, ?_, ?_, ?_, fun k hk1 hk2 => ?_⟩
    · rw [uI_1, if_neg (by omega), uI_1, if_neg (by omega), e1, nI_1]
    · rw [uI_1, if_pos ⟨rfl, rfl, rfl⟩, nI_1]
      unfold zmn
      by_cases h : sz < 192
      · rw [if_pos h]
        by_cases h' : sz + 1 < 192
        · rw [if_pos (show nI (sz + 1) < (192 : Int32) from nI_lt (b := 192) h' (by omega))]
        · rw [if_neg (show ¬ nI (sz + 1) < (192 : Int32) from nI_nlt (b := 192) (by omega) (by omega)), show sz + 1 = 192 by omega]; rfl
      · rw [if_neg h, if_neg (show ¬ nI (sz + 1) < (192 : Int32) from nI_nlt (b := 192) (by omega) (by omega))]; rfl
    · have : (p + 1 + 192 - 1) % 192 = p := by omega
      rw [this, uI_1, if_neg (by omega), uI_1, if_pos ⟨rfl, rfl, rfl⟩]
    · have h3 : (p + 1 + 192 - k) % 192 ≠ p := by omega
      have h4 : (p + 1 + 192 - k) % 192 = (q + 192 - (k - 1)) % 192 := by omega
      rw [uI_1, if_neg (by omega), uI_1, if_neg (by omega), uI_1, if_neg (by omega), h4]
  unfold d_X6_add
  rw [h1]
  by_cases h : q < 192
  · rw [if_pos (show nI q < (192 : Int32) from nI_lt (b := 192) h (by omega))]
    exact key q h rfl
  · rw [if_neg (show ¬ nI q < (192 : Int32) from nI_nlt (b := 192) (by omega) (by omega)), nI_c0]
    exact key 0 (by omega) (by omega)
theorem x11_q4 {W w wt : Int32} {E : qE} {r : Nat} {cl : List (Bool × List qop)} (hE : qeL E = qlaw cl) {D : qD} {σ : zH} (hL : rML σ r cl) (h : rMP W σ w E wt D) (hn : (D 7 0).toInt ≤ 20000) :
    zwp (d_X11_quarter σ (nI r)) (fun σ' => zsm FM σ σ' ∧ rMP W σ' w E wt (qqu E D) ∧ mst σ σ' wt (qmen E (qqu E D)) (D 7 0) (qmask (qup (qqu E D)) (qeN E)) ∧ ∀ j, j ≠ 4 → j ≠ 5 → j ≠ 6 → j ≠ 7 → j ≠ 9 → j ≠ 10 → σ'.1 42 0 j = σ.1 42 0 j) := by
  obtain ⟨hC, hS, hO, hw⟩ := h
  refine zwp_mono (x11_quarter hE hC hL hS hO hn) (fun σ' g => ?_)
  obtain ⟨g1, g2, g3, g4, g5⟩ := g
  refine ⟨g1, ⟨hC.mv (fun k hk => (g1 k 0 (by unfold FM; omega)).1) g4, g2, g3, ?_⟩, by rw [← hw]; exact g5, g4⟩
  rw [g4 3 (by omega) (by omega) (by omega) (by omega) (by omega) (by omega)]; exact hw
/-- a quarter with its log, both sides -/
theorem tick_step {σc σm : zH} (h : qR σc σm) {L r : Nat} (hL : σc.1 10 0 5 = nI L) (hL6 : L ≤ 6) (hr : r < L) (hnow : (σc.1 8 0 1).toInt + 1 ≤ 9999) :
    ∃ σ2 σ4 σm', d_X8_passQuarters σc 0 r (1 : Int32) = some σ2 ∧ ((d_X8_upBits σ2 0).bind fun p3 => d_X6_add p3.1 0 p3.2) = some σ4 ∧ d_X11_quarter σm (nI r) = some σm' ∧ qR σ4 σm' ∧ σ4.1 10 0 5 = σc.1 10 0 5 ∧ σ4.1 8 0 1 = σc.1 8 0 1 + 1 := by
  obtain ⟨E0, wt, D, v0⟩ := h.2.2.1
  obtain ⟨L', l1, l2, l3, l4⟩ := h.2.1
  have eL : L' = L := by
    rw [l2] at hL
    exact (nI_eq (by omega) (by omega)).mp hL
  subst eL
  obtain ⟨cl, c1, c2⟩ := l4 r hr
  obtain ⟨E, hE, v⟩ : ∃ E, qeL E = qlaw cl ∧ rLive σc 0 σm E wt D := ⟨qwl E0 (qlaw cl), rfl, v0.wl _⟩
  clear v0
  have hn := v.1.1.1
  have h00 := v.1.2.2.1.2.2.1
  have hnw := v.1.2.1.1
  rw [hnw] at hnow
  obtain ⟨σ2, g1, g2, g3, g4⟩ := x8_pass hE c1 v.1 1 (by omega) (by omega)
  rw [nI_one] at g1
  have hq1 : qrun E 1 D = qqu E D := by rw [qrun, qrun]
  rw [hq1] at g3
  obtain ⟨σm', m1, m2, m3, m4, m5⟩ := x11_q4 hE c2 v.2.1 (by omega)
  obtain ⟨p, m, ⟨st1, st2⟩, ⟨f1, f2⟩, f3, f4, ⟨sz, q, a7, a8, a9, a10, a11, a12⟩, b8, b, bb1, bb2, bb3, bb4⟩ := v
  have z6 := (g2 6 0 (by unfold F8; omega)).1
  have z30 := (g2 30 0 (by unfold F8; omega)).1
  obtain ⟨σ4, k1, k2, q', k3, k4, k5, k6, k7⟩ := x6_add (σ := σ2) (s := 0) a7 a8 (by rw [z6]; exact a9) (by rw [z6]; exact a10) (qmask (qup (qqu E D)) (qeN E))
  refine ⟨σ2, σ4, σm', g1, ?_, m1, ?_, ?_, ?_⟩
  · rw [x8_upBits g3.1 g3.2.1]
    exact k1
  · have zz : zsm Gl σc σ4 := (g2.mono (fun k i hk => by unfold Gl Gc; unfold F8 at hk; omega)).tr (k2.mono (fun k i hk => by unfold Gl Gc; omega))
    have t1 : ∀ j, σ4.1 8 0 j = σ2.1 8 0 j := fun j => by rw [(k2 8 0 (by omega)).1]
    have h70 : qqu E D 7 0 = D 7 0 + 1 := qqu_70 E D
    have hi : (D 7 0 + 1).toInt = (D 7 0).toInt + 1 := by rw [fb_addI (by rw [i32_1]; omega) (by rw [i32_1]; omega), i32_1]
    obtain ⟨s1, s2, s3, s4⟩ := m4
    have c12 : σ2.1 8 0 12 = (if qmen E (qqu E D) < wt then σc.1 8 0 12 + 1 else σc.1 8 0 12) := by
      have := congrArg (fun a => a.1) g4
      rw [qstn, hq1] at this
      exact this
    have c13 : σ2.1 8 0 13 = (if qmen E (qqu E D) < wt then (if σc.1 8 0 13 = -2 then D 7 0 else σc.1 8 0 13) else σc.1 8 0 13) := by
      have := congrArg (fun a => a.2.1) g4
      rw [qstn, hq1] at this
      exact this
    have hF : (σm.1 42 0 5 + 1).toInt = (σm.1 42 0 5).toInt + 1 := by rw [fb_addI (by rw [i32_1]; omega) (by rw [i32_1]; omega), i32_1]
    refine h.l zz (fun k hk => (m2 k 0 (by unfold FM; omega)).1) (fun j _ => by rw [(m2 11 0 (by unfold FM; omega)).1]) ⟨E, wt, qqu E D, ?_, m3, ⟨?_, ?_⟩, ?_, ?_, by rw [h70, hi]; exact hnow, ?_, ?_⟩
    · exact g3.mvF (fun k hk => (k2 k 1 (by omega)).1) (fun k hk => (k2 k 0 (by omega)).1)
    · rw [t1, c12, s1, st1]
    · rw [t1, c13, s2, st2]
      by_cases hf : σm.1 42 0 5 = 0
      · rw [if_pos hf, if_pos (f3.mp hf)]
      · rw [if_neg hf, if_neg (fun q => hf (f3.mpr q))]
    · rw [s1, h70, hi]
      split
      · rw [hF]; omega
      · omega
    · rw [s1, s2]
      by_cases hlt : qmen E (qqu E D) < wt
      · rw [if_pos hlt, if_pos hlt]
        constructor
        · intro e
          have := congrArg Int32.toInt e
          rw [hF, i32_0] at this
          omega
        · intro e
          by_cases hf : σm.1 42 0 5 = 0
          · rw [if_pos hf] at e
            have := congrArg Int32.toInt e
            rw [i32_m2] at this
            omega
          · rw [if_neg hf] at e
            exact absurd (f3.mpr e) hf
      · rw [if_neg hlt, if_neg hlt]
        exact f3
    · refine ⟨if sz < 192 then sz + 1 else 192, q', by split <;> omega, k3, k4, k5, ?_, fun k hk1 hk2 => ?_⟩
      · rw [s3, a11]
        by_cases hs : sz < 192
        · rw [if_pos hs, if_pos (show nI sz < (192 : Int32) from nI_lt (b := 192) hs (by omega)), nI_1]
        · rw [if_neg hs, if_neg (show ¬ nI sz < (192 : Int32) from nI_nlt (b := 192) (by omega) (by omega)), Int32.add_zero, show sz = 192 by omega]
      · have hk192 : k ≤ 192 := by split at hk2 <;> omega
        rw [s4 _ (by omega)]
        by_cases e : k = 1
        · subst e
          rw [k6, if_pos rfl]
        · have hks : k - 1 ≤ sz := by split at hk2 <;> omega
          rw [k7 k (by omega) hk192, if_neg (by omega), z30, a12 (k - 1) (by omega) hks]
    · refine ⟨?_, b, bb1, ?_, ?_, fun i hi => ?_⟩
      · rw [(k2 0 1 (by omega)).1, (g2 0 1 (by unfold F8; omega)).1]
        rw [m5 2 (by omega) (by omega) (by omega) (by omega) (by omega) (by omega)]; exact b8
      · rw [(k2 0 1 (by omega)).1, (g2 0 1 (by unfold F8; omega)).1]; exact bb2
      · rw [m5 1 (by omega) (by omega) (by omega) (by omega) (by omega) (by omega)]; exact bb3
      · rw [(k2 16 1 (by omega)).1, (k2 17 1 (by omega)).1, (g2 16 1 (by unfold F8; omega)).1, (g2 17 1 (by unfold F8; omega)).1, (m2 47 0 (by unfold FM; omega)).1, (m2 48 0 (by unfold FM; omega)).1]
        exact bb4 i hi
  · rw [(k2 10 0 (by omega)).1, (g2 10 0 (by unfold F8; omega)).1]
  · rw [(k2 8 0 (by omega)).1, g3.2.1.1, qqu_70, hnw]
theorem r_tick {σc σm : zH} (h : qR σc σm) (x y : Int32) : zrel (d_X10_tick σc x y) (d_X11_tick σm x y) qR := by
  obtain ⟨E, wt, D, v⟩ := h.2.2.1
  obtain ⟨L, l1, l2, l3, -⟩ := h.2.1
  have h00 := v.1.2.2.1.2.2.1
  have h99 := v.2.2.2.2.2.1
  unfold d_X10_tick d_X11_tick
  rcases num_case x L (by omega) with hx | ⟨r, hr, rfl⟩
  · rw [x10_noLaw l2 hx, x11_noLaw l3 l1 hx]
    exact zrel_same h
  rw [x10_isLaw l2 l1 hr, x11_isLaw l3 l1 hr]
  simp only [Option.bind_some]
  rw [if_neg i10, if_neg i10]
  by_cases h1 : y < 1
  · rw [if_pos h1, in_0 (A := 1) (B := 96) 1 96 rfl rfl (Or.inl h1)]
    exact zrel_same h
  rw [if_neg h1]
  by_cases h2 : (96 : Int32) < y
  · rw [if_pos h2, in_0 (A := 1) (B := 96) 1 96 rfl rfl (Or.inr h2)]
    exact zrel_same h
  rw [if_neg h2, in_1 (A := 1) (B := 96) 1 96 rfl rfl h1 h2]
  simp only [Option.bind_some]
  rw [if_neg i10, v.1.2.1.1, v.2.1.2.1.1]
  by_cases h3 : (9999 : Int32) < D 7 0 + y
  · rw [if_pos h3, if_pos h3]
    exact zrel_same h
  rw [if_neg h3, if_neg h3]
  obtain ⟨n, hn1, hn2, rfl⟩ := i32_lt1 h1
  have hn96 : n ≤ 96 := by
    rw [show (96 : Int32) = nI 96 from rfl, nI_ltI (by omega) hn2] at h2
    omega
  have h9999 : (D 7 0).toInt + n ≤ 9999 := by
    rw [fa_lt, fb_addI (by rw [nI_toInt hn2]; omega) (by rw [nI_toInt hn2]; omega), nI_toInt hn2, show (9999 : Int32).toInt = 9999 by decide] at h3
    omega
  rw [show k_X10_tick_38 zN σc (nI r) (nI n) (0 : Int32) = k_X10_tick_38 zN σc (nI r) (nI n) (nI 0) by rw [nI_0], show k_X11_tick_38 zN σm (nI r) (nI n) (0 : Int32) = k_X11_tick_38 zN σm (nI r) (nI n) (nI 0) by rw [nI_0]]
  refine zrel_for (fun f i a => k_X10_tick_38 f a (nI r) (nI n) (nI i)) (fun f i b => k_X11_tick_38 f b (nI r) (nI n) (nI i)) (fun i a b => qR a b ∧ a.1 10 0 5 = nI L ∧ (a.1 8 0 1).toInt = (D 7 0).toInt + i) qR n (by omega) ?_ ?_ σc σm ⟨h, l2, by rw [v.1.2.1.1]; simp⟩
  · rintro f g i a b hi ⟨i1, i2, i3⟩
    obtain ⟨σ2, σ4, σm', e1, e2, e3, e4, e5, e6⟩ := tick_step i1 i2 l1 hr (by omega)
    refine ⟨σ4, σm', ⟨e4, by rw [e5]; exact i2, ?_⟩, ?_, ?_⟩
    · rw [e6, fb_addI (by rw [i32_1]; omega) (by rw [i32_1]; omega), i32_1, i3]
      omega
    · rw [k_X10_tick_38, if_pos (nI_lt hi (by omega)), ix_nI (by omega) (by omega), Nat.zero_add, e1]
      simp only [Option.bind_some]
      rw [← Option.bind_assoc, e2, nI_1]
      rfl
    · rw [k_X11_tick_38, if_pos (nI_lt hi (by omega)), e3]
      simp only [Option.bind_some]
      rw [nI_1]
  · rintro f g a b ⟨i1, i2, i3⟩
    obtain ⟨E', wt', D', v'⟩ := i1.2.2.1
    rw [k_X10_tick_38, k_X11_tick_38, if_neg (nI_nlt (Nat.le_refl _) (by omega)), if_neg (nI_nlt (Nat.le_refl _) (by omega)), v'.1.2.1.1, v'.2.1.2.1.1]
    exact zrel_same i1
