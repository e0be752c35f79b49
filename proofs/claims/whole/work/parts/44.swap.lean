/-! CALLS: swap -/
def qsw (E : qE) (i j : Nat) : qE := (fun r c => if r = 2 then (if c = i then E.1 2 j else if c = j then E.1 2 i else E.1 2 c) else E.1 r c, E.2)
theorem qsw_ne (E : qE) (i j : Nat) {r : Nat} (h : r ≠ 2) (c : Nat) : qeR (qsw E i j) r c = qeR E r c := if_neg h
theorem qsw_2 (E : qE) (i j c : Nat) : qeR (qsw E i j) 2 c = if c = i then qeR E 2 j else if c = j then qeR E 2 i else qeR E 2 c := by
  show (if (2 : Nat) = 2 then (if c = i then E.1 2 j else if c = j then E.1 2 i else E.1 2 c) else E.1 2 c) = _
  rw [if_pos rfl]
  rfl
theorem qsw_men (E : qE) (i j : Nat) (D : qD) : qmen (qsw E i j) D = qmen E D := qsum_cong (fun c _ => by rw [qsw_ne E i j (by omega)])
theorem x0_exch {σ : zH} {c i j : Nat} (hi : i < 12) (hj : j < 12) : d_X0_exchangeBeds σ c (nI i) (nI j) = some (uI (uI σ 14 c i (σ.1 14 c j)) 14 c j (σ.1 14 c i)) := by
  unfold d_X0_exchangeBeds
  simp only [ix_nI hi (show 12 < 2 ^ 31 by omega), ix_nI hj (show 12 < 2 ^ 31 by omega), Nat.add_zero, zlet]
theorem rP.sw {W w : Int32} {σ : zH} {s i j : Nat} {E : qE} {D : qD} (h : rP W σ s E w D) (hi : i < qeN E) (hj : j < qeN E) (hij : i ≠ j) : rP W (uI (uI σ 14 (s + 1) i (σ.1 14 (s + 1) j)) 14 (s + 1) j (σ.1 14 (s + 1) i)) s (qsw E i j) w D := by
  obtain ⟨⟨c1, c2, c3, c4, c5⟩, ⟨s1, s2, s3, s4, s5, s6, s7, s8⟩, hO, hw⟩ := h
  have z : zsm (fun k ii => k = 14 ∧ ii = s + 1) σ (uI (uI σ 14 (s + 1) i (σ.1 14 (s + 1) j)) 14 (s + 1) j (σ.1 14 (s + 1) i)) := (zsm.rf.uI ⟨rfl, rfl⟩ _ _).uI ⟨rfl, rfl⟩ _ _
  have zf : ∀ k ii, ¬ (k = 14 ∧ ii = s + 1) → (uI (uI σ 14 (s + 1) i (σ.1 14 (s + 1) j)) 14 (s + 1) j (σ.1 14 (s + 1) i)).1 k ii = σ.1 k ii := fun k ii hk => (z k ii hk).1
  refine ⟨⟨c1, by rw [zf 0 (s + 1) (by omega)]; exact c2, fun r c hr hc => ?_, ?_, ?_⟩, ⟨by rw [zf 8 s (by omega)]; exact s1, by rw [zf 8 s (by omega)]; exact s2, by rw [zf 8 s (by omega)]; exact s3, by rw [zf 8 s (by omega)]; exact s4, by rw [zf 8 s (by omega), qsw_men]; exact s5, by rw [zf 8 s (by omega)]; exact s6, fun r c hr h0 h3 hc => by rw [zf (30 + r) s (by omega)]; exact s7 r c hr h0 h3 hc, fun c hc => by rw [zf 33 s (by omega)]; exact s8 c hc⟩, hO, by rw [zf 0 (s + 1) (by omega)]; exact hw⟩
  · by_cases e : r = 2
    · subst e
      rw [qsw_2]
      have b1 : σ.1 14 (s + 1) i = qeR E 2 i := c3 2 i (by omega) hi
      have b2 : σ.1 14 (s + 1) j = qeR E 2 j := c3 2 j (by omega) hj
      show (uI (uI σ 14 (s + 1) i (σ.1 14 (s + 1) j)) 14 (s + 1) j (σ.1 14 (s + 1) i)).1 14 (s + 1) c = _
      rw [uI_1, uI_1, b1, b2]
      by_cases e1 : c = i
      · rw [if_neg (by omega), if_pos ⟨rfl, rfl, e1⟩, if_pos e1]
      · by_cases e2 : c = j
        · rw [if_pos ⟨rfl, rfl, e2⟩, if_neg e1, if_pos e2]
        · rw [if_neg (by omega), if_neg (by omega), if_neg e1, if_neg e2]
          exact c3 2 c (by omega) hc
    · rw [qsw_ne E i j e, zf (12 + r) (s + 1) (by omega)]
      exact c3 r c hr hc
  · rw [zf 0 (s + 1) (by omega), zf 16 (s + 1) (by omega), zf 17 (s + 1) (by omega)]; exact c4
  · rw [zf 0 (s + 1) (by omega), zf 18 (s + 1) (by omega), zf 19 (s + 1) (by omega), zf 20 (s + 1) (by omega)]; exact c5
theorem x11_swaps {σ : zH} {i j : Nat} (hi : i < 12) (hj : j < 12) : d_X11_swaps σ (nI i) (nI j) = some (uI (uI σ 45 0 i (σ.1 45 0 j)) 45 0 j (σ.1 45 0 i)) := by
  unfold d_X11_swaps
  simp only [ix_nI hi (show 12 < 2 ^ 31 by omega), ix_nI hj (show 12 < 2 ^ 31 by omega), zlet]
theorem rMP.sw {W w wt : Int32} {σ : zH} {i j : Nat} {E : qE} {D : qD} (h : rMP W σ w E wt D) (hi : i < qeN E) (hj : j < qeN E) (hij : i ≠ j) : rMP W (uI (uI σ 45 0 i (σ.1 45 0 j)) 45 0 j (σ.1 45 0 i)) w (qsw E i j) wt D := by
  obtain ⟨⟨c1, c2, c3, c4, c5, c6, c7⟩, ⟨s1, s2, s3, s4⟩, hO, hw⟩ := h
  have z : zsm (fun k _ => k = 45) σ (uI (uI σ 45 0 i (σ.1 45 0 j)) 45 0 j (σ.1 45 0 i)) := ((zsm.rf (F := fun k _ => k = 45)).uI (k := 45) (i := 0) rfl i _).uI (k := 45) (i := 0) rfl j _
  have zf : ∀ k ii, k ≠ 45 → (uI (uI σ 45 0 i (σ.1 45 0 j)) 45 0 j (σ.1 45 0 i)).1 k ii = σ.1 k ii := fun k ii hk => (z k ii hk).1
  refine ⟨⟨c1, by rw [zf 42 0 (by omega)]; exact c2, fun r c hr hc => ?_, ?_, ?_, by rw [zf 42 0 (by omega)]; exact c6, by rw [zf 11 0 (by omega)]; exact c7⟩, ⟨by rw [zf 42 0 (by omega)]; exact s1, by rw [zf 42 0 (by omega)]; exact s2, by rw [zf 42 0 (by omega)]; exact s3, fun r c hr hc => ?_⟩, hO, by rw [zf 42 0 (by omega)]; exact hw⟩
  · by_cases e : r = 2
    · subst e
      rw [qsw_2]
      have b1 : σ.1 45 0 i = qeR E 2 i := c3 2 i (by omega) hi
      have b2 : σ.1 45 0 j = qeR E 2 j := c3 2 j (by omega) hj
      show (uI (uI σ 45 0 i (σ.1 45 0 j)) 45 0 j (σ.1 45 0 i)).1 45 0 c = _
      rw [uI_1, uI_1, b1, b2]
      by_cases e1 : c = i
      · rw [if_neg (by omega), if_pos ⟨rfl, rfl, e1⟩, if_pos e1]
      · by_cases e2 : c = j
        · rw [if_pos ⟨rfl, rfl, e2⟩, if_neg e1, if_pos e2]
        · rw [if_neg (by omega), if_neg (by omega), if_neg e1, if_neg e2]
          exact c3 2 c (by omega) hc
    · rw [qsw_ne E i j e, zf (43 + r) 0 (by omega)]
      exact c3 r c hr hc
  · rw [zf 42 0 (by omega), zf 47 0 (by omega), zf 48 0 (by omega)]; exact c4
  · rw [zf 42 0 (by omega), zf 49 0 (by omega), zf 50 0 (by omega), zf 51 0 (by omega)]; exact c5
  · have := mrow_lt hr
    rw [zf (mrow r) 0 (by omega)]; exact s4 r c hr hc
/-! the search over pairs -/
def swIn (val : Nat → Nat → Int32) (sk : Nat → Nat → Bool) (i : Nat) : Nat → Int32 × Int32 → Int32 × Int32
  | 0, a => a
  | j + 1, a => if sk i j then swIn val sk i j a else if val i j < (swIn val sk i j a).1 then (val i j, nI (12 * i + j)) else swIn val sk i j a
theorem swIn_lo {val : Nat → Nat → Int32} {sk : Nat → Nat → Bool} {i : Nat} (a : Int32 × Int32) (h : ∀ j, j ≤ i → sk i j = true) : ∀ j, j ≤ i + 1 → swIn val sk i j a = a
  | 0, _ => rfl
  | j + 1, hj => by rw [swIn, if_pos (h j (by omega)), swIn_lo a h j (by omega)]
def swOut (val : Nat → Nat → Int32) (sk : Nat → Nat → Bool) (n : Nat) (start : Int32) : Nat → Int32 × Int32
  | 0 => (start, -2)
  | i + 1 => swIn val sk i n (swOut val sk n start i)
theorem qout3_lo {E : qE} {w : Int32} {n : Nat} {D : qD} : qout E w n n D 3 = qtired E (qrun E n D) := by
  unfold qout
  rw [qtr_lo D n (Nat.le_refl _)]
  rfl
theorem r_swap {σc σm : zH} (h : qR σc σm) (x y w : Int32) : zrel (d_X10_swap σc x y w) (d_X11_swap σm x y w) qR := by
  obtain ⟨L, l1, l2, l3, -⟩ := h.2.1
  unfold d_X10_swap d_X11_swap
  rcases num_case x L (by omega) with hx | ⟨r, hr, rfl⟩
  · rw [x10_noLaw l2 hx, x11_noLaw l3 l1 hx]
    exact zrel_same h
  rw [x10_isLaw l2 l1 hr, x11_isLaw l3 l1 hr]
  simp only [Option.bind_some]
  rw [if_neg i10, if_neg i10]
  by_cases h1 : y < 1
  · rw [if_pos h1, in_0 (A := 1) (B := 192) 1 192 rfl rfl (Or.inl h1)]
    exact zrel_same h
  rw [if_neg h1]
  by_cases h2 : (192 : Int32) < y
  · rw [if_pos h2, in_0 (A := 1) (B := 192) 1 192 rfl rfl (Or.inr h2)]
    exact zrel_same h
  rw [if_neg h2, in_1 (A := 1) (B := 192) 1 192 rfl rfl h1 h2]
  simp only [Option.bind_some]
  rw [if_neg i10]
  by_cases h3 : w < 0
  · rw [if_pos h3, in_0 (A := 0) (B := 1) 0 1 rfl rfl (Or.inl h3)]
    exact zrel_same h
  rw [if_neg h3]
  by_cases h4 : (1 : Int32) < w
  · rw [if_pos h4, in_0 (A := 0) (B := 1) 0 1 rfl rfl (Or.inr h4)]
    exact zrel_same h
  rw [if_neg h4, in_1 (A := 0) (B := 1) 0 1 rfl rfl h3 h4]
  simp only [Option.bind_some]
  rw [if_neg i10]
  obtain ⟨n, hn1, hn, rfl⟩ := i32_lt1 h1
  obtain ⟨kw, hk, rfl⟩ := nI_of h3
  rw [show (192 : Int32) = nI 192 from rfl, nI_ltI (by omega) hn] at h2
  rw [show (1 : Int32) = nI 1 from rfl, nI_ltI (by omega) hk] at h4
  obtain ⟨E, wt, D, cl, hE, c1, c2, v⟩ := h.law l2 l1 hr
  have hd := v.2.2.2.2.2.1
  have h00 := v.1.2.2.1.2.2.1
  have hN := v.1.1.1
  rw [ix_nI (by omega) (by omega), Nat.zero_add]
  generalize hval : (fun i j => qout (qsw E i j) wt n n D 3) = val
  have hv : ∀ i j, qout (qsw E i j) wt n n D 3 = val i j := fun i j => by rw [← hval]
  generalize hsk : (fun i j => decide (j ≤ i) || decide (qeR E 2 i = qeR E 2 j)) = sk
  have hs : ∀ i j, sk i j = (decide (j ≤ i) || decide (qeR E 2 i = qeR E 2 j)) := fun i j => by rw [← hsk]
  have hs1 : ∀ i j, j ≤ i → sk i j = true := fun i j hji => by rw [hs, decide_eq_true hji]; rfl
  have hcode : ∀ i j, i < 12 → j < 12 → ¬ nI (12 * i + j) = -2 := fun i j hi hj q => by
    have := congrArg Int32.toInt q
    rw [nI_toInt (by omega), i32_m2] at this
    omega
  have h12 : ∀ i j, (12 : Int32) * nI i + nI j = nI (12 * i + j) := fun i j => by rw [← nI_add, ← pk_mul]; rfl
  -- the class
  have hc : zwp (d_X2_findSwap σc r (nI n)) (fun σ' => zsm Gc σc σ' ∧ fnd σ' (swOut val sk (qeN E) (qout E wt n n D 3) (qeN E))) := by
    unfold d_X2_findSwap
    obtain ⟨σ1, e1, z1, k1, k2, -⟩ := x2_keep σc (-2) (-2) (-2)
    rw [e1]
    simp only [Option.bind_some]
    obtain ⟨σ2, e2, z2, p2, q2⟩ := x2_playAt hE (c1.gc (z22 z1)) (v.1.gc (z22 z1)) n (by omega) (by omega)
    unfold d_X2_play at e2
    obtain ⟨σr, er, e2⟩ := Option.bind_eq_some_iff.mp e2
    rw [er]
    simp only [Option.bind_some]
    obtain ⟨σp, ep, e2⟩ := Option.bind_eq_some_iff.mp e2
    cases e2
    rw [ep]
    simp only [Option.bind_some]
    rw [x8_tired p2]
    simp only [Option.bind_some]
    rw [show qtired E (qtr E n n D) = qout E wt n n D 3 from rfl, nI_c0]
    refine zwp_for (fun f i (s : zH × Int32) => k_X2_findSwap_34 f s.1 r (nI n) s.2 (nI i)) (fun i s => zsm Gc σc s.1 ∧ fnd s.1 (swOut val sk (qeN E) (qout E wt n n D 3) i) ∧ s.2 = (swOut val sk (qeN E) (qout E wt n n D 3) i).1) _ 0 (qeN E) (by omega) (by omega) ?_ ?_ (σ2, qout E wt n n D 3) ⟨(z22 z1).tr (z2.mono (fun _ _ q => Fs5_Gc q)), fnd.mvF ⟨k1, k2⟩ z2, rfl⟩
    · rintro f i ⟨τ0, s0⟩ hi ⟨j1, j2, j3⟩ IHo
      dsimp only at j1 j2 j3 ⊢
      have hn0 : τ0.1 0 (0 + 1) 0 = nI (qeN E) := by rw [(j1 0 (0 + 1) (by unfold Gc; omega)).1]; exact v.1.1.2.1
      rw [k_X2_findSwap_34, hn0, if_pos (nI_lt hi (by omega)), nI_1]
      generalize hA : swOut val sk (qeN E) (qout E wt n n D 3) i = A at j2 j3
      refine zwp_for (fun g j (s : zH × Int32) => k_X2_findSwap_55 (j_X2_findSwap_169 (k_X2_findSwap_34 f)) g s.1 r (nI n) s.2 (nI i) (nI j)) (fun j s => i < j ∧ zsm Gc σc s.1 ∧ fnd s.1 (swIn val sk i j A) ∧ s.2 = (swIn val sk i j A).1) _ (i + 1) (qeN E) (by omega) (by omega) ?_ ?_ (τ0, s0) ⟨by omega, j1, by rw [swIn_lo A (hs1 i) (i + 1) (by omega)]; exact j2, by rw [swIn_lo A (hs1 i) (i + 1) (by omega)]; exact j3⟩
      · rintro g j ⟨τ, s⟩ hj ⟨ij, i1, i2, i3⟩ IH
        dsimp only at i1 i2 i3 ⊢
        have hn1 : τ.1 0 (0 + 1) 0 = nI (qeN E) := by rw [(i1 0 (0 + 1) (by unfold Gc; omega)).1]; exact v.1.1.2.1
        have hb : ∀ c, c < qeN E → τ.1 14 (0 + 1) c = qeR E 2 c := fun c hc => by rw [(i1 14 (0 + 1) (by unfold Gc; omega)).1]; exact v.1.1.2.2.1 2 c (by omega) hc
        rw [k_X2_findSwap_55, hn1, if_pos (nI_lt hj (by omega)), ix_nI (by omega) (by omega), ix_nI (by omega) (by omega), Nat.add_zero, hb i hi, hb j hj, nI_1]
        refine zwp_if (fun e => ?_) (fun e => ?_)
        · have hq : swIn val sk i (j + 1) A = swIn val sk i j A := by rw [swIn, if_pos (by rw [hs, decide_eq_true e, Bool.or_true])]
          exact IH (τ, s) ⟨by omega, i1, by rw [hq]; exact i2, by rw [hq]; exact i3⟩
        · have hskf : ¬ sk i j = true := by rw [hs, decide_eq_false e, decide_eq_false (by omega)]; decide
          obtain ⟨τ1, f1, w1, p1, q1⟩ := x2_restart (v.1.gc i1)
          rw [f1]
          simp only [Option.bind_some]
          rw [show (5 : Nat) + 1 = 6 from rfl, x0_exch (by omega) (by omega)]
          simp only [Option.bind_some]
          have pE := p1.sw hi hj (by omega)
          generalize hτ2 : uI (uI τ1 14 6 i (τ1.1 14 6 j)) 14 6 j (τ1.1 14 6 i) = τ2
          have w2 : zsm (fun kk ii => kk = 14 ∧ ii = 6) τ1 τ2 := by rw [← hτ2]; exact (zsm.rf.uI ⟨rfl, rfl⟩ _ _).uI ⟨rfl, rfl⟩ _ _
          rw [show uI (uI τ1 14 (5 + 1) i (τ1.1 14 (5 + 1) j)) 14 (5 + 1) j (τ1.1 14 (5 + 1) i) = τ2 from hτ2] at pE
          have zz2 : zsm Gc σc τ2 := (i1.tr (w1.mono (fun _ _ q => Fs5_Gc q))).tr (w2.mono (fun kk ii q => by unfold Gc; omega))
          obtain ⟨τ3, f3, w3, p3, -⟩ := x8_pass (cl := cl) (D := D) (show qeL (qsw E i j) = qlaw cl from hE) (c1.gc zz2) pE n (by omega) (by omega)
          rw [f3]
          simp only [Option.bind_some]
          rw [x8_tired p3]
          simp only [Option.bind_some]
          have o3 : qtired (qsw E i j) (qrun (qsw E i j) n D) = val i j := by rw [← hv, qout3_lo]
          rw [o3, h12]
          have i1' : zsm Gc σc τ3 := zz2.tr (w3.mono (fun kk ii q => by unfold Gc; unfold F8 at q; omega))
          refine zwp_if (fun e2 => ?_) (fun e2 => ?_)
          · obtain ⟨τ4, e3, z3, k3, k4, -⟩ := x2_keep τ3 (nI (12 * i + j)) (val i j) (-2)
            rw [e3]
            simp only [Option.bind_some]
            have hq : swIn val sk i (j + 1) A = (val i j, nI (12 * i + j)) := by rw [swIn, if_neg hskf, if_pos (by rw [← i3]; exact e2)]
            refine IH (τ4, val i j) ⟨by omega, i1'.tr (z22 z3), ?_, by rw [hq]⟩
            rw [hq]
            exact ⟨k3, by rw [if_neg (hcode i j (by omega) (by omega))]; exact k4⟩
          · have hq : swIn val sk i (j + 1) A = swIn val sk i j A := by rw [swIn, if_neg hskf, if_neg (by rw [← i3]; exact e2)]
            refine IH (τ3, s) ⟨by omega, i1', ?_, by rw [hq]; exact i3⟩
            rw [hq]
            have h22 : τ3.1 22 0 = τ.1 22 0 := by
              rw [(w3 22 0 (by unfold F8; omega)).1, (w2 22 0 (by omega)).1, (w1 22 0 (by unfold Fs F8; omega)).1]
            unfold fnd at i2 ⊢
            rw [h22]; exact i2
      · rintro g ⟨τ, s⟩ ⟨ij, i1, i2, i3⟩
        dsimp only at i1 i2 i3 ⊢
        have hn1 : τ.1 0 (0 + 1) 0 = nI (qeN E) := by rw [(i1 0 (0 + 1) (by unfold Gc; omega)).1]; exact v.1.1.2.1
        rw [k_X2_findSwap_55, hn1, if_neg (nI_nlt (Nat.le_refl _) (by omega))]
        unfold j_X2_findSwap_169
        rw [nI_1]
        exact IHo (τ, s) ⟨i1, by rw [swOut, hA]; exact i2, by rw [swOut, hA]; exact i3⟩
    · rintro f ⟨τ, s⟩ ⟨i1, i2, i3⟩
      dsimp only at i1 i2 i3 ⊢
      have hn1 : τ.1 0 (0 + 1) 0 = nI (qeN E) := by rw [(i1 0 (0 + 1) (by unfold Gc; omega)).1]; exact v.1.1.2.1
      rw [k_X2_findSwap_34, hn1, if_neg (nI_nlt (Nat.le_refl _) (by omega))]
      exact zwp_some.mpr ⟨i1, i2⟩
  -- the reference
  obtain ⟨σ3, e3, s3⟩ := m_tries hE c2 v.2.1 hd v.2.2.2.1 (msame.rf σm) n (by omega) (-1) n (hat_none n (by omega)) 3 (by omega)
  rw [show nI 3 = (3 : Int32) from rfl] at e3
  have hm : zwp (k_X11_swap_49 j_X11_swap_170 zN σ3 (nI r) (nI n) (nI kw) (qout E wt n n D 3) (-2 : Int32) (0 : Int32)) (fun p => msame σm p.1 ∧ p.2 = if kw = 0 then (swOut val sk (qeN E) (qout E wt n n D 3) (qeN E)).2 else if (swOut val sk (qeN E) (qout E wt n n D 3) (qeN E)).2 = -2 then -2 else (swOut val sk (qeN E) (qout E wt n n D 3) (qeN E)).1) := by
    rw [show k_X11_swap_49 j_X11_swap_170 zN σ3 (nI r) (nI n) (nI kw) (qout E wt n n D 3) (-2 : Int32) (0 : Int32) = k_X11_swap_49 j_X11_swap_170 zN σ3 (nI r) (nI n) (nI kw) (qout E wt n n D 3) (-2 : Int32) (nI 0) by rw [nI_0]]
    refine zwp_for (fun f i (s : zH × Int32 × Int32) => k_X11_swap_49 j_X11_swap_170 f s.1 (nI r) (nI n) (nI kw) s.2.1 s.2.2 (nI i)) (fun i s => msame σm s.1 ∧ s.2 = swOut val sk (qeN E) (qout E wt n n D 3) i) _ 0 (qeN E) (by omega) (by omega) ?_ ?_ (σ3, qout E wt n n D 3, -2) ⟨s3, rfl⟩
    · rintro f i ⟨τ0, s0⟩ hi ⟨j1, j2⟩ IHo
      dsimp only at j1 j2 ⊢
      have hn0 : τ0.1 42 0 0 = nI (qeN E) := by rw [j1.2.1 0 (by omega)]; exact v.2.1.1.2.1
      rw [k_X11_swap_49, hn0, if_pos (nI_lt hi (by omega)), nI_1]
      generalize hA : swOut val sk (qeN E) (qout E wt n n D 3) i = A at j2
      refine zwp_for (fun g j (s : zH × Int32 × Int32) => k_X11_swap_66 (j_X11_swap_164 (k_X11_swap_49 j_X11_swap_170 f)) g s.1 (nI r) (nI n) (nI kw) s.2.1 s.2.2 (nI i) (nI j)) (fun j s => i < j ∧ msame σm s.1 ∧ s.2 = swIn val sk i j A) _ (i + 1) (qeN E) (by omega) (by omega) ?_ ?_ (τ0, s0) ⟨by omega, j1, by rw [swIn_lo A (hs1 i) (i + 1) (by omega)]; exact j2⟩
      · rintro g j ⟨τ, s⟩ hj ⟨ij, i1, i2⟩ IH
        dsimp only at i1 i2 ⊢
        have hn1 : τ.1 42 0 0 = nI (qeN E) := by rw [i1.2.1 0 (by omega)]; exact v.2.1.1.2.1
        have e45 : τ.1 45 0 = σm.1 45 0 := (i1.1 45 0 (by omega)).1
        have hb : ∀ c, c < qeN E → τ.1 45 0 c = qeR E 2 c := fun c hc => by rw [e45]; exact v.2.1.1.2.2.1 2 c (by omega) hc
        rw [k_X11_swap_66, hn1, if_pos (nI_lt hj (by omega)), ix_nI (by omega) (by omega), ix_nI (by omega) (by omega), hb i hi, hb j hj, nI_1]
        refine zwp_if (fun e => ?_) (fun e => ?_)
        · have hq : swIn val sk i (j + 1) A = swIn val sk i j A := by rw [swIn, if_pos (by rw [hs, decide_eq_true e, Bool.or_true])]
          exact IH (τ, s) ⟨by omega, i1, by rw [hq]; exact i2⟩
        · have hskf : ¬ sk i j = true := by rw [hs, decide_eq_false e, decide_eq_false (by omega)]; decide
          rw [x11_swaps (by omega) (by omega)]
          simp only [Option.bind_some]
          have hP := (v.2.1.same i1).sw hi hj (by omega)
          have u45 : ∀ kk ii jj, kk ≠ 45 → (uI (uI τ 45 0 i (τ.1 45 0 j)) 45 0 j (τ.1 45 0 i)).1 kk ii jj = τ.1 kk ii jj := fun kk ii jj hkk => by rw [uI_1, if_neg (by omega), uI_1, if_neg (by omega)]
          have v45 : ∀ jj, (uI (uI τ 45 0 i (τ.1 45 0 j)) 45 0 j (τ.1 45 0 i)).1 45 0 jj = if jj = j then τ.1 45 0 i else if jj = i then τ.1 45 0 j else τ.1 45 0 jj := fun jj => by
            rw [uI_1, uI_1]
            by_cases e1 : jj = j
            · rw [if_pos ⟨rfl, rfl, e1⟩, if_pos e1]
            · rw [if_neg (by omega), if_neg e1]
              by_cases e2 : jj = i
              · rw [if_pos ⟨rfl, rfl, e2⟩, if_pos e2]
              · rw [if_neg (by omega), if_neg e2]
          have w45 : ∀ ii jj, ii ≠ 0 → (uI (uI τ 45 0 i (τ.1 45 0 j)) 45 0 j (τ.1 45 0 i)).1 45 ii jj = τ.1 45 ii jj := fun ii jj hii => by rw [uI_1, if_neg (by omega), uI_1, if_neg (by omega)]
          have s45 : (uI (uI τ 45 0 i (τ.1 45 0 j)) 45 0 j (τ.1 45 0 i)).2 = τ.2 := rfl
          generalize hτ1 : uI (uI τ 45 0 i (τ.1 45 0 j)) 45 0 j (τ.1 45 0 i) = τ1 at hP u45 v45 w45 s45
          have hL1 : rML τ1 r cl := (c2.same i1).mv (fun k hk => funext fun jj => u45 k 0 jj (by omega))
          have f5 : τ1.1 42 0 5 = σm.1 42 0 5 := by rw [u45 _ _ _ (by omega), i1.2.1 5 (by omega)]
          obtain ⟨⟨τ2, vv⟩, f2, t2, e2⟩ := x11_tries (cl := cl) (D := D) (show qeL (qsw E i j) = qlaw cl from hE) hL1 hP (by omega) (by rw [f5]; have := v.2.2.2.1; omega) n (by omega) (-1) n (hat_none n (by omega)) 3 (by omega)
          rw [show nI 3 = (3 : Int32) from rfl] at f2
          dsimp only at t2 e2
          rw [hv] at e2
          subst e2
          rw [f2]
          simp only [Option.bind_some]
          rw [x11_swaps (by omega) (by omega)]
          simp only [Option.bind_some]
          have r45 : τ2.1 45 0 = τ1.1 45 0 := (t2.1 45 0 (by omega)).1
          have t3 : msame σm (uI (uI τ2 45 0 i (τ2.1 45 0 j)) 45 0 j (τ2.1 45 0 i)) := by
            have uu : ∀ kk ii jj, ¬ (kk = 45 ∧ ii = 0) → (uI (uI τ2 45 0 i (τ2.1 45 0 j)) 45 0 j (τ2.1 45 0 i)).1 kk ii jj = τ2.1 kk ii jj := fun kk ii jj hkk => by rw [uI_1, if_neg (by omega), uI_1, if_neg (by omega)]
            refine i1.tr ⟨fun k ii hk => ⟨funext fun jj => ?_, ?_⟩, fun jj hj => ?_, fun k a b jj hj => ?_⟩
            · by_cases e5 : k = 45 ∧ ii = 0
              · obtain ⟨rfl, rfl⟩ := e5
                rw [uI_1, uI_1, r45, v45 i, v45 j, v45 jj]
                by_cases q1 : jj = j
                · rw [if_pos ⟨rfl, rfl, q1⟩, if_neg (by omega), if_pos rfl, q1]
                · rw [if_neg (by omega)]
                  by_cases q2 : jj = i
                  · rw [if_pos ⟨rfl, rfl, q2⟩, if_pos rfl, q2]
                  · rw [if_neg (by omega), if_neg q1, if_neg q2]
              · rw [uu k ii jj e5, (t2.1 k ii hk).1]
                by_cases e6 : k = 45
                · rw [e6]
                  exact w45 ii jj (by omega)
                · exact u45 k ii jj e6
            · exact ((t2.1 k ii hk).2).trans (by rw [s45])
            · rw [uu 42 0 jj (by omega), t2.2.1 jj hj, u45 _ _ _ (by omega)]
            · rw [uu k 0 jj (by omega), t2.2.2 k a b jj hj, u45 _ _ _ (by omega)]
          unfold j_X11_swap_140 j_X11_swap_156
          rw [nI_1, h12]
          refine zwp_if (fun e5 => ?_) (fun e5 => ?_)
          · rw [if_pos e5]
            exact IH (_, val i j, nI (12 * i + j)) ⟨by omega, t3, by rw [swIn, if_neg hskf, if_pos (by rw [← i2]; exact e5)]⟩
          · rw [if_neg e5]
            exact IH (_, s) ⟨by omega, t3, by rw [swIn, if_neg hskf, if_neg (by rw [← i2]; exact e5)]; exact i2⟩
      · rintro g ⟨τ, s⟩ ⟨ij, i1, i2⟩
        dsimp only at i1 i2 ⊢
        have hn1 : τ.1 42 0 0 = nI (qeN E) := by rw [i1.2.1 0 (by omega)]; exact v.2.1.1.2.1
        rw [k_X11_swap_66, hn1, if_neg (nI_nlt (Nat.le_refl _) (by omega))]
        unfold j_X11_swap_164
        rw [nI_1]
        exact IHo (τ, s) ⟨i1, by rw [swOut, hA]; exact i2⟩
    · rintro f ⟨τ, s⟩ ⟨i1, i2⟩
      dsimp only at i1 i2 ⊢
      have hn1 : τ.1 42 0 0 = nI (qeN E) := by rw [i1.2.1 0 (by omega)]; exact v.2.1.1.2.1
      rw [k_X11_swap_49, hn1, if_neg (nI_nlt (Nat.le_refl _) (by omega)), i2]
      unfold j_X11_swap_170
      by_cases e : (swOut val sk (qeN E) (qout E wt n n D 3) (qeN E)).2 = -2
      · rw [if_pos e, if_pos e, e]
        refine zwp_some.mpr ⟨i1, ?_⟩
        split <;> rfl
      · rw [if_neg e, if_neg e]
        by_cases e0 : kw = 0
        · rw [if_pos (by rw [e0]; exact nI_0), if_pos e0]
          exact zwp_some.mpr ⟨i1, rfl⟩
        · rw [if_neg (nI_ne0 (by omega) (by omega)), if_neg e0]
          exact zwp_some.mpr ⟨i1, rfl⟩
  rw [e3]
  simp only [Option.bind_some]
  refine zrel_of (P1 := fun σ => zsm Gc σc σ) ?_ hm (fun a b p q => h.cm p q)
  refine zwp_to hc (fun σ' hp => ?_)
  rw [ix_nI (by omega) (by omega)]
  refine zwp_some.mpr ⟨hp.1, ?_⟩
  by_cases e0 : kw = 0
  · rw [if_pos e0, e0]; exact hp.2.1
  · rw [if_neg e0, show kw = 1 by omega]; exact hp.2.2
