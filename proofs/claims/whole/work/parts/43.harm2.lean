/-! CALLS: harm, whole -/
theorem x2_restartC {σ : zH} {W w : Int32} {E : qE} {D : qD} (h : rP W σ 0 E w D) : zwp (d_X2_restart σ) (fun σ' => zsm (Fs 5) σ σ' ∧ rP (-(D 7 2)) σ' 5 E w D ∧ cst σ' 5 = (0, -2, qall E) ∧ σ'.1 0 6 5 = σ.1 0 1 5 ∧ ∀ j, j < 8 → σ'.1 16 6 j = σ.1 16 1 j ∧ σ'.1 17 6 j = σ.1 17 1 j) := by
  unfold d_X2_restart
  refine zwp_to (x8_copyFrom (s := 5) (t := 0) (by omega) σ) (fun σ1 c => ?_)
  have g2 := cpd.P h c
  refine zwp_to (x8_beginCounts g2.1 g2.2.1) (fun σ2 h2 => zwp_some.mpr ?_)
  obtain ⟨k1, k2, k3⟩ := h2
  refine ⟨c.1.tr (k1.mono (fun k i q => Or.inl q)), ⟨g2.1.mv (fun k hk => (k1 k 6 (by unfold F8; omega)).1), k2, g2.2.2.1, ?_⟩, k3, ?_, fun j hj => ⟨?_, ?_⟩⟩
  · rw [(k1 0 6 (by unfold F8; omega)).1]; exact g2.2.2.2
  · rw [(k1 0 6 (by unfold F8; omega)).1]; exact c.2.2.2.1 5 (by omega)
  · rw [(k1 16 6 (by unfold F8; omega)).1]; exact c.2.2.2.2.2 16 j (by omega) (by omega) hj
  · rw [(k1 17 6 (by unfold F8; omega)).1]; exact c.2.2.2.2.2 17 j (by omega) (by omega) hj
/-- the bell k left out, as the reference sees it -/
def qwo (E : qE) (a t : Nat → Int32) (b k : Nat) : qE :=
  qwbt E (fun q => if qfst (fun i => !decide (nI i = nI k) && decide (a i = q)) b = -1 then 0 else t (qfst (fun i => !decide (nI i = nI k) && decide (a i = q)) b).toNatClampNeg) (fun q => qfst (fun i => !decide (nI i = nI k) && decide (a i = q)) b)
theorem rMP.wo {σ : zH} {E : qE} {wt : Int32} {D : qD} {b k : Nat} (h : rMP 0 σ (-1) E wt D) (hb : σ.1 42 0 1 = nI b) (hb8 : b ≤ 8) : rMP 0 (uI σ 11 0 29 (nI k)) (nI k) (qwo E (σ.1 47 0) (σ.1 48 0) b k) wt D := by
  obtain ⟨⟨c1, c2, c3, -, ⟨d, c7, c8, c9⟩, c10, c11⟩, ⟨n1, n2, n3, n4⟩, hO, hw⟩ := h
  have u : ∀ kk j, kk ≠ 11 → (uI σ 11 0 29 (nI k)).1 kk 0 j = σ.1 kk 0 j := fun kk j hkk => by rw [uI_1, if_neg (by omega)]
  have uf : ∀ kk, kk ≠ 11 → (uI σ 11 0 29 (nI k)).1 kk 0 = σ.1 kk 0 := fun kk hkk => funext fun j => u kk j hkk
  refine ⟨⟨c1, by rw [u _ _ (by omega)]; exact c2, fun r i hr hi => by rw [u _ _ (by omega)]; exact c3 r i hr hi, ⟨b, hb8, by rw [u _ _ (by omega)]; exact hb, fun q => ?_, fun q => ?_⟩, ⟨d, c7, by rw [u _ _ (by omega)]; exact c8, ?_⟩, by rw [u _ _ (by omega)]; exact c10, by rw [uI_1, if_pos ⟨rfl, rfl, rfl⟩]⟩, ⟨by rw [u _ _ (by omega)]; exact n1, by rw [u _ _ (by omega)]; exact n2, by rw [u _ _ (by omega)]; exact n3, fun r i hr hi => ?_⟩, hO, by rw [u _ _ (by omega)]; exact hw⟩
  · rw [uf 47 (by omega)]; rfl
  · rw [uf 48 (by omega)]; rfl
  · rw [uf 49 (by omega), uf 50 (by omega), uf 51 (by omega)]; exact c9
  · have := mrow_lt hr
    rw [u _ _ (by omega)]; exact n4 r i hr hi
theorem r_harm {σc σm : zH} (h : qR σc σm) (x y w : Int32) : zrel (d_X10_harm σc x y w) (d_X11_harm σm x y w) qR := by
  obtain ⟨L, l1, l2, l3, -⟩ := h.2.1
  unfold d_X10_harm d_X11_harm
  rcases num_case x L (by omega) with hx | ⟨r, hr, rfl⟩
  · rw [x10_noLaw l2 hx, x11_noLaw l3 l1 hx]
    exact zrel_same h
  rw [x10_isLaw l2 l1 hr, x11_isLaw l3 l1 hr]
  simp only [Option.bind_some]
  rw [if_neg i10, if_neg i10]
  by_cases h1 : y < 1
  · rw [if_pos h1, in_0 (A := 1) (B := 192) 1 192 rfl rfl (Or.inl h1)]
    exact zrel_same h
  rw [if_neg h1]
  by_cases h2 : (192 : Int32) < y
  · rw [if_pos h2, in_0 (A := 1) (B := 192) 1 192 rfl rfl (Or.inr h2)]
    exact zrel_same h
  rw [if_neg h2, in_1 (A := 1) (B := 192) 1 192 rfl rfl h1 h2]
  simp only [Option.bind_some]
  rw [if_neg i10]
  by_cases h3 : w < 0
  · rw [if_pos h3, in_0 (A := 0) (B := 1) 0 1 rfl rfl (Or.inl h3)]
    exact zrel_same h
  rw [if_neg h3]
  by_cases h4 : (1 : Int32) < w
  · rw [if_pos h4, in_0 (A := 0) (B := 1) 0 1 rfl rfl (Or.inr h4)]
    exact zrel_same h
  rw [if_neg h4, in_1 (A := 0) (B := 1) 0 1 rfl rfl h3 h4]
  simp only [Option.bind_some]
  rw [if_neg i10]
  obtain ⟨n, hn1, hn, rfl⟩ := i32_lt1 h1
  obtain ⟨kw, hk, rfl⟩ := nI_of h3
  rw [show (192 : Int32) = nI 192 from rfl, nI_ltI (by omega) hn] at h2
  rw [show (1 : Int32) = nI 1 from rfl, nI_ltI (by omega) hk] at h4
  obtain ⟨E, wt, D, cl, hE, c1, c2, v⟩ := h.law l2 l1 hr
  have hd := v.2.2.2.2.2.1
  have h00 := v.1.2.2.1.2.2.1
  obtain ⟨-, b, hb8, hbc, hbm, hbarr⟩ := v.2.2.2.2.2.2.2
  rw [ix_nI (by omega) (by omega), Nat.zero_add]
  generalize hval : (fun k => qout (qwo E (σm.1 47 0) (σm.1 48 0) b k) wt n n D 1) = val
  have hv : ∀ k, qout (qwo E (σm.1 47 0) (σm.1 48 0) b k) wt n n D 1 = val k := fun k => by rw [← hval]
  -- the class
  have hc : zwp (d_X2_findHarm σc r (nI n)) (fun σ' => zsm Gc σc σ' ∧ fnd σ' (qbst val nI (qout E wt n n D 1) b)) := by
    unfold d_X2_findHarm
    obtain ⟨σ1, e1, z1, k1, k2, -⟩ := x2_keep σc (-2) (-2) (-2)
    rw [e1]
    simp only [Option.bind_some]
    obtain ⟨σ2, e2, z2, p2, q2⟩ := x2_playAt hE (c1.gc (z22 z1)) (v.1.gc (z22 z1)) n (by omega) (by omega)
    unfold d_X2_play at e2
    obtain ⟨σr, er, e2⟩ := Option.bind_eq_some_iff.mp e2
    rw [er]
    simp only [Option.bind_some]
    obtain ⟨σp, ep, e2⟩ := Option.bind_eq_some_iff.mp e2
    cases e2
    rw [ep]
    simp only [Option.bind_some]
    have o2 : σ2.1 8 5 12 = qout E wt n n D 1 := congrArg (fun a => a.1) q2
    rw [o2, nI_c0]
    refine zwp_for (fun f i (s : zH × Int32) => k_X2_findHarm_34 f s.1 r (nI n) s.2 (nI i)) (fun i s => zsm Gc σc s.1 ∧ fnd s.1 (qbst val nI (qout E wt n n D 1) i) ∧ s.2 = (qbst val nI (qout E wt n n D 1) i).1) _ 0 b (by omega) (by omega) ?_ ?_ (σ2, qout E wt n n D 1) ⟨(z22 z1).tr (z2.mono (fun _ _ q => Fs5_Gc q)), fnd.mvF ⟨k1, k2⟩ z2, rfl⟩
    · rintro f i ⟨τ, s⟩ hi ⟨i1, i2, i3⟩ IH
      dsimp only at i1 i2 i3 ⊢
      have hb5 : τ.1 0 1 5 = nI b := by rw [(i1 0 1 (by unfold Gc; omega)).1]; exact hbc
      rw [k_X2_findHarm_34, show τ.1 0 (0 + 1) 5 = nI b from hb5, if_pos (nI_lt hi (by omega))]
      obtain ⟨τ1, f1, w1, p1, q1, a5, a16⟩ := x2_restartC (v.1.gc i1)
      rw [f1]
      simp only [Option.bind_some]
      obtain ⟨τ2, f2, w2, b5, bo, ba⟩ := x0_dropBell (c := 6) (k := i) (a5.trans hb5) hb8 hi
      rw [show (5 : Nat) + 1 = 6 from rfl, f2]
      simp only [Option.bind_some]
      -- the dropped bells
      have har : ∀ j, j < b → τ1.1 16 6 j = σm.1 47 0 j ∧ τ1.1 17 6 j = σm.1 48 0 j := fun j hj => by
        rw [(a16 j (by omega)).1, (a16 j (by omega)).2, (i1 16 1 (by unfold Gc; omega)).1, (i1 17 1 (by unfold Gc; omega)).1]
        exact hbarr j hj
      have hdr := fun q => drop_bell (σm.1 47 0) (σm.1 48 0) hi hb8 q (τ2.1 16 6) (τ2.1 17 6) (fun j hj => by rw [(ba j hj).1]; split; exact (har j (by omega)).1; exact (har (j + 1) hj).1) (fun j hj => by rw [(ba j hj).2]; split; exact (har j (by omega)).2; exact (har (j + 1) hj).2)
      have pE : rP (-(D 7 2)) τ2 5 (qwbt (qwo E (σm.1 47 0) (σm.1 48 0) b i) (qeT (qwo E (σm.1 47 0) (σm.1 48 0) b i)) (fun q => qfst (fun j => decide (τ2.1 16 6 j = q)) (b - 1))) wt D := by
        obtain ⟨⟨g1, g2, g3, -, ⟨d, g7, g8, g9⟩⟩, hS, hO, hw⟩ := p1
        have wf : ∀ kk, ¬ (kk = 0 ∨ kk = 16 ∨ kk = 17) → τ2.1 kk 6 = τ1.1 kk 6 := fun kk hkk => (w2 kk 6 (by omega)).1
        refine ⟨⟨g1, by rw [bo 0 (by omega)]; exact g2, fun rr j hrr hj => by rw [wf (12 + rr) (by omega)]; exact g3 rr j hrr hj, ⟨b - 1, by omega, b5, fun q => rfl, fun q => (hdr q).symm⟩, ⟨d, g7, by rw [bo 8 (by omega)]; exact g8, ?_⟩⟩, ?_, hO, by rw [bo 12 (by omega)]; exact hw⟩
        · rw [wf 18 (by omega), wf 19 (by omega), wf 20 (by omega)]; exact g9
        · obtain ⟨s1, s2, s3, s4, s5, s6, s7, s8⟩ := hS
          have w8 : ∀ kk, kk = 8 ∨ (31 ≤ kk ∧ kk ≤ 36) → τ2.1 kk 5 = τ1.1 kk 5 := fun kk hkk => (w2 kk 5 (by omega)).1
          exact ⟨by rw [w8 8 (by omega)]; exact s1, by rw [w8 8 (by omega)]; exact s2, by rw [w8 8 (by omega)]; exact s3, by rw [w8 8 (by omega)]; exact s4, by rw [w8 8 (by omega)]; exact s5, by rw [w8 8 (by omega)]; exact s6, fun rr j hr1 hr2 hr3 hj => by rw [w8 (30 + rr) (by omega)]; exact s7 rr j hr1 hr2 hr3 hj, fun j hj => by rw [w8 33 (by omega)]; exact s8 j hj⟩
      have zz1 : zsm Gc σc τ1 := i1.tr (w1.mono (fun _ _ q => Fs5_Gc q))
      have zz2 : zsm Gc σc τ2 := zz1.tr (w2.mono (fun kk ii q => by unfold Gc; omega))
      have hE2 : qeL (qwbt (qwo E (σm.1 47 0) (σm.1 48 0) b i) (qeT (qwo E (σm.1 47 0) (σm.1 48 0) b i)) (fun q => qfst (fun j => decide (τ2.1 16 6 j = q)) (b - 1))) = qlaw cl := hE
      obtain ⟨τ3, f3, w3, p3, q3⟩ := x8_pass (cl := cl) (D := D) hE2 (c1.gc zz2) pE n (by omega) (by omega)
      rw [f3]
      simp only [Option.bind_some]
      have o3 : τ3.1 8 5 12 = val i := by
        have e := congrArg (fun a => a.1) q3
        have ec : cst τ2 5 = (0, -2, qall E) := by
          unfold cst
          rw [(w2 8 5 (by omega)).1]
          exact q1
        rw [ec, (qsim.rf D).stn] at e
        rw [← hv, qout1_lo]
        exact e
      rw [o3, nI_1]
      have i1' : zsm Gc σc τ3 := zz2.tr (w3.mono (fun kk ii q => by unfold Gc; unfold F8 at q; omega))
      have hf3 : ∀ bb, fnd τ bb → fnd τ3 bb := fun bb hb => by
        have h22 : τ3.1 22 0 = τ.1 22 0 := by
          rw [(w3 22 0 (by unfold F8; omega)).1, (w2 22 0 (by omega)).1, (w1 22 0 (by unfold Fs F8; omega)).1]
        unfold fnd at hb ⊢
        rw [h22]; exact hb
      refine zwp_if (fun e => ?_) (fun e => ?_)
      · obtain ⟨τ4, e3, z3, k3, k4, -⟩ := x2_keep τ3 (nI i) (val i) (-2)
        rw [e3]
        simp only [Option.bind_some]
        have hq : qbst val nI (qout E wt n n D 1) (i + 1) = (val i, nI i) := by rw [qbst, if_pos (by rw [← i3]; exact e)]
        refine IH (τ4, val i) ⟨i1'.tr (z22 z3), ?_, by rw [hq]⟩
        rw [hq]
        refine ⟨k3, ?_⟩
        rw [if_neg (show ¬ nI i = -2 from fun q => by
          have := congrArg Int32.toInt q
          rw [nI_toInt (by omega), i32_m2] at this
          omega)]
        exact k4
      · have hq : qbst val nI (qout E wt n n D 1) (i + 1) = qbst val nI (qout E wt n n D 1) i := by rw [qbst, if_neg (by rw [← i3]; exact e)]
        refine IH (τ3, s) ⟨i1', ?_, by rw [hq]; exact i3⟩
        rw [hq]
        exact hf3 _ i2
    · rintro f ⟨τ, s⟩ ⟨i1, i2, i3⟩
      dsimp only at i1 i2 i3 ⊢
      have hb5 : τ.1 0 1 5 = nI b := by rw [(i1 0 1 (by unfold Gc; omega)).1]; exact hbc
      rw [k_X2_findHarm_34, show τ.1 0 (0 + 1) 5 = nI b from hb5, if_neg (nI_nlt (Nat.le_refl _) (by omega))]
      exact zwp_some.mpr ⟨i1, i2⟩
  -- the reference
  obtain ⟨σ3, e3, s3⟩ := m_tries hE c2 v.2.1 hd v.2.2.2.1 (msame.rf σm) n (by omega) (-1) n (hat_none n (by omega)) 1 (by omega)
  rw [nI_one] at e3
  have h29 : σm.1 11 0 29 = -1 := v.2.1.1.2.2.2.2.2.2
  have hm : zwp (k_X11_harm_49 j_X11_harm_119 zN σ3 (nI r) (nI n) (nI kw) (qout E wt n n D 1) (-2 : Int32) (0 : Int32)) (fun p => msame σm p.1 ∧ p.2 = if kw = 0 then (qbst val nI (qout E wt n n D 1) b).2 else if (qbst val nI (qout E wt n n D 1) b).2 = -2 then -2 else (qbst val nI (qout E wt n n D 1) b).1) := by
    rw [show k_X11_harm_49 j_X11_harm_119 zN σ3 (nI r) (nI n) (nI kw) (qout E wt n n D 1) (-2 : Int32) (0 : Int32) = k_X11_harm_49 j_X11_harm_119 zN σ3 (nI r) (nI n) (nI kw) (qout E wt n n D 1) (-2 : Int32) (nI 0) by rw [nI_0]]
    refine zwp_for (fun f i (s : zH × Int32 × Int32) => k_X11_harm_49 j_X11_harm_119 f s.1 (nI r) (nI n) (nI kw) s.2.1 s.2.2 (nI i)) (fun i s => msame σm s.1 ∧ s.2 = qbst val nI (qout E wt n n D 1) i) _ 0 b (by omega) (by omega) ?_ ?_ (σ3, qout E wt n n D 1, -2) ⟨s3, rfl⟩
    · rintro f i ⟨τ, s⟩ hi ⟨i1, i2⟩ IH
      dsimp only at i1 i2 ⊢
      have hb1 : τ.1 42 0 1 = nI b := by rw [i1.2.1 1 (by omega)]; exact hbm
      rw [k_X11_harm_49, hb1, if_pos (nI_lt hi (by omega))]
      refine zwp_let.mpr ?_
      have hP := (v.2.1.same i1).wo (k := i) hb1 hb8
      have e47 : τ.1 47 0 = σm.1 47 0 := (i1.1 47 0 (by omega)).1
      have e48 : τ.1 48 0 = σm.1 48 0 := (i1.1 48 0 (by omega)).1
      rw [e47, e48] at hP
      have hL1 : rML (uI τ 11 0 29 (nI i)) r cl := (c2.same i1).mv (fun k hk => funext fun j => by rw [uI_1, if_neg (by omega)])
      have f5 : (uI τ 11 0 29 (nI i)).1 42 0 5 = σm.1 42 0 5 := by rw [uI_1, if_neg (by omega), i1.2.1 5 (by omega)]
      obtain ⟨⟨τ2, vv⟩, f2, t2, e2⟩ := x11_tries (cl := cl) (D := D) (show qeL (qwo E (σm.1 47 0) (σm.1 48 0) b i) = qlaw cl from hE) hL1 hP (by omega) (by rw [f5]; have := v.2.2.2.1; omega) n (by omega) (-1) n (hat_none n (by omega)) 1 (by omega)
      rw [nI_one] at f2
      dsimp only at t2 e2
      rw [hv] at e2
      subst e2
      rw [f2]
      simp only [Option.bind_some]
      refine zwp_let.mpr ?_
      have t3 : msame σm (uI τ2 11 0 29 (-1)) := by
        refine i1.tr ⟨fun k ii hk => ⟨funext fun j => ?_, ?_⟩, fun j hj => ?_, fun k a b j hj => ?_⟩
        · by_cases e : k = 11 ∧ ii = 0 ∧ j = 29
          · obtain ⟨rfl, rfl, rfl⟩ := e
            rw [uI_1, if_pos ⟨rfl, rfl, rfl⟩, (i1.1 11 0 (by omega)).1, h29]
          · rw [uI_1, if_neg e, (t2.1 k ii hk).1, uI_1, if_neg e]
        · exact (t2.1 k ii hk).2
        · rw [uI_1, if_neg (by omega), t2.2.1 j hj, uI_1, if_neg (by omega)]
        · rw [uI_1, if_neg (by omega), t2.2.2 k a b j hj, uI_1, if_neg (by omega)]
      unfold j_X11_harm_95 j_X11_harm_111
      rw [nI_1]
      refine zwp_if (fun e => ?_) (fun e => ?_)
      · rw [if_pos e]
        exact IH (_, val i, nI i) ⟨t3, by rw [qbst, if_pos (by rw [← i2]; exact e)]⟩
      · rw [if_neg e]
        exact IH (_, s) ⟨t3, by rw [qbst, if_neg (by rw [← i2]; exact e)]; exact i2⟩
    · rintro f ⟨τ, s⟩ ⟨i1, i2⟩
      dsimp only at i1 i2 ⊢
      have hb1 : τ.1 42 0 1 = nI b := by rw [i1.2.1 1 (by omega)]; exact hbm
      rw [k_X11_harm_49, hb1, if_neg (nI_nlt (Nat.le_refl _) (by omega)), i2]
      unfold j_X11_harm_119
      by_cases e : (qbst val nI (qout E wt n n D 1) b).2 = -2
      · rw [if_pos e, if_pos e, e]
        refine zwp_some.mpr ⟨i1, ?_⟩
        split <;> rfl
      · rw [if_neg e, if_neg e]
        by_cases e0 : kw = 0
        · rw [if_pos (by rw [e0]; exact nI_0), if_pos e0]
          exact zwp_some.mpr ⟨i1, rfl⟩
        · rw [if_neg (nI_ne0 (by omega) (by omega)), if_neg e0]
          exact zwp_some.mpr ⟨i1, rfl⟩
  rw [e3]
  simp only [Option.bind_some]
  refine zrel_of (P1 := fun σ => zsm Gc σc σ) ?_ hm (fun a b p q => h.cm p q)
  refine zwp_to hc (fun σ' hp => ?_)
  rw [ix_nI (by omega) (by omega)]
  refine zwp_some.mpr ⟨hp.1, ?_⟩
  by_cases e0 : kw = 0
  · rw [if_pos e0, e0]; exact hp.2.1
  · rw [if_neg e0, show kw = 1 by omega]; exact hp.2.2
