/-! CALLS: company, why, count, lie, tires, drum, feast, seed -/
theorem rMQ.P {W w wt : Int32} {σ σ' : zH} {E : qE} {D D' : qD} (h : rMP W σ w E wt D) (q : rMQ σ W E D' σ') : rMP W σ' w E wt D' := ⟨q.C h.1, q.2.1, q.2.2.1, by rw [q.2.2.2.1 3 (by omega) (by omega) (by omega)]; exact h.2.2.2⟩
theorem live_step {σc σm σc' σm' : zH} {E : qE} {wt : Int32} {D D' : qD} (h : qR σc σm) (v : rLive σc 0 σm E wt D) (z : zsm (F8 0) σc σc') (p : rP 0 σc' 0 E wt D') (c : cst σc' 0 = cst σc 0) (q : rMQ σm 0 E D' σm') (hnow : D' 7 0 = D 7 0) : qR σc' σm' := by
  have c12 : σc'.1 8 0 12 = σc.1 8 0 12 := congrArg (fun a => a.1) c
  have c13 : σc'.1 8 0 13 = σc.1 8 0 13 := congrArg (fun a => a.2.1) c
  refine h.l (z.mono (fun k i hk => by unfold Gl Gc; unfold F8 at hk; omega)) (fun k hk => (q.1 k 0 (by unfold FM; omega)).1) (fun j _ => by rw [(q.1 11 0 (by unfold FM; omega)).1]) ⟨E, wt, D', ?_⟩
  refine v.upd p (rMQ.P v.2.1 q) hnow c12 c13 (q.2.2.2.1 5 (by omega) (by omega) (by omega)) (q.2.2.2.1 6 (by omega) (by omega) (by omega)) (q.2.2.2.1 9 (by omega) (by omega) (by omega)) (z 6 0 (by unfold F8; omega)).1 (z 30 0 (by unfold F8; omega)).1 (fun j _ => q.2.2.2.2 j)
    (by rw [(z 0 1 (by unfold F8; omega)).1]) (by rw [(z 0 1 (by unfold F8; omega)).1]) (z 16 1 (by unfold F8; omega)).1 (z 17 1 (by unfold F8; omega)).1 (q.2.2.2.1 1 (by omega) (by omega) (by omega)) (q.2.2.2.1 2 (by omega) (by omega) (by omega)) (q.1 47 0 (by unfold FM; omega)).1 (q.1 48 0 (by unfold FM; omega)).1
theorem r_drum {σc σm : zH} (h : qR σc σm) : zrel (d_X10_drum σc) (d_X11_drum σm) qR := by
  obtain ⟨E, wt, D, v⟩ := h.2.2.1
  unfold d_X10_drum
  refine zrel_of (v := qcnt E D) (P1 := fun σ => zsm (F8 0) σc σ ∧ rP 0 σ 0 E wt (qdrum E D) ∧ cst σ 0 = cst σc 0) (P2 := fun σ => rMQ σm 0 E (qdrum E D) σ) ?_ ?_ (fun a b p q => live_step h v p.1 p.2.1 p.2.2 q (qdrum_70 E D 0))
  · exact zwp_to (x8_wakeAll v.1) (fun p hp => zwp_some.mpr ⟨⟨hp.1, hp.2.1, hp.2.2.1⟩, hp.2.2.2⟩)
  · exact zwp_mono (x11_drum v.2.1) (fun p hp => ⟨hp.1, hp.2.2⟩)
theorem r_company {σc σm : zH} (h : qR σc σm) (x y : Int32) : zrel (d_X10_company σc x y) (d_X11_company σm x y) qR := by
  obtain ⟨E, wt, D, v⟩ := h.2.2.1
  have hn := v.1.1.1
  have c0 : σc.1 0 1 0 = nI (qeN E) := v.1.1.2.1
  have m0 : σm.1 42 0 0 = nI (qeN E) := v.2.1.1.2.1
  unfold d_X10_company d_X11_company
  rcases num_case x (qeN E) (by omega) with hx | ⟨a, ha, rfl⟩
  · rw [x10_noCompany c0 hx, x11_noCompany m0 hn hx]
    exact zrel_same h
  rw [x10_isCompany c0 hn ha, x11_isCompany m0 hn ha]
  simp only [Option.bind_some]
  rw [if_neg i10, if_neg i10]
  simp only [ix_nI (show a < 12 by omega) (show 12 < 2 ^ 31 by omega), Nat.add_zero]
  by_cases e0 : y = 0
  · rw [if_pos e0, if_pos e0, x8_asleep v.1.1 v.1.2.1 ha, show σm.1 62 0 a = D 0 a from v.2.1.2.1.2.2.2 0 a (by omega) ha]
    simp only [Option.bind_some]
    rcases (v.1.2.2.1.1 a ha).1 with e | e
    · rw [show qdown D a = false by unfold qdown; rw [e]; rfl, if_pos b2i_f, e]
      exact zrel_same h
    · rw [show qdown D a = true by unfold qdown; rw [e]; rfl, if_neg (by decide), e]
      exact zrel_same h
  rw [if_neg e0, if_neg e0]
  by_cases e1 : y = 1
  · rw [if_pos e1, if_pos e1, show σc.1 31 0 a = D 1 a from v.1.2.1.2.2.2.2.2.2.1 1 a (by omega) (by omega) (by omega) ha, show σm.1 63 0 a = D 1 a from v.2.1.2.1.2.2.2 1 a (by omega) ha]
    exact zrel_same h
  rw [if_neg e1, if_neg e1]
  by_cases e2 : y = 2
  · rw [if_pos e2, if_pos e2, show σc.1 32 0 a = D 2 a from v.1.2.1.2.2.2.2.2.2.1 2 a (by omega) (by omega) (by omega) ha, show σm.1 64 0 a = D 2 a from v.2.1.2.1.2.2.2 2 a (by omega) ha]
    exact zrel_same h
  rw [if_neg e2, if_neg e2]
  by_cases e3 : y = 3
  · rw [if_pos e3, if_pos e3, show σc.1 12 (0 + 1) a = qeR E 0 a from v.1.1.2.2.1 0 a (by omega) ha, show σm.1 43 0 a = qeR E 0 a from v.2.1.1.2.2.1 0 a (by omega) ha]
    exact zrel_same h
  rw [if_neg e3, if_neg e3]
  by_cases e4 : y = 4
  · rw [if_pos e4, if_pos e4, show σc.1 13 (0 + 1) a = qeR E 1 a from v.1.1.2.2.1 1 a (by omega) ha, show σm.1 44 0 a = qeR E 1 a from v.2.1.1.2.2.1 1 a (by omega) ha]
    exact zrel_same h
  rw [if_neg e4, if_neg e4]
  by_cases e5 : y = 5
  · rw [if_pos e5, if_pos e5, show σc.1 14 (0 + 1) a = qeR E 2 a from v.1.1.2.2.1 2 a (by omega) ha, show σm.1 45 0 a = qeR E 2 a from v.2.1.1.2.2.1 2 a (by omega) ha]
    exact zrel_same h
  rw [if_neg e5, if_neg e5]
  by_cases e6 : y = 6
  · rw [if_pos e6, if_pos e6, show σc.1 15 (0 + 1) a = qeR E 3 a from v.1.1.2.2.1 3 a (by omega) ha, show σm.1 46 0 a = qeR E 3 a from v.2.1.1.2.2.1 3 a (by omega) ha]
    exact zrel_same h
  rw [if_neg e6, if_neg e6]
  by_cases e7 : y = 7
  · obtain ⟨d, h8, hd, hu⟩ := v.1.1.2.2.2.2
    rw [if_pos e7, if_pos e7, x11_hasDuty v.2.1.1 v.2.1.2.1, x0_firstDuty hd h8, v.1.2.1.1]
    simp only [Option.bind_some]
    rw [← hu]
    show zrel (if qeU E a (qrem (D 7 0)) = -1 then _ else _) _ _
    by_cases e : qeU E a (qrem (D 7 0)) = -1
    · rw [if_pos e, decide_eq_true e, if_pos (show b2i (!true) = 0 from rfl)]
      exact zrel_same h
    · rw [if_neg e, decide_eq_false e, if_neg (show ¬ b2i (!false) = 0 by decide)]
      exact zrel_same h
  rw [if_neg e7, if_neg e7]
  exact zrel_same h
theorem r_why {σc σm : zH} (h : qR σc σm) (x y : Int32) : zrel (d_X10_why σc x y) (d_X11_why σm x y) qR := by
  obtain ⟨E, wt, D, v⟩ := h.2.2.1
  have hn := v.1.1.1
  have c0 : σc.1 0 1 0 = nI (qeN E) := v.1.1.2.1
  have m0 : σm.1 42 0 0 = nI (qeN E) := v.2.1.1.2.1
  unfold d_X10_why d_X11_why
  rcases num_case x (qeN E) (by omega) with hx | ⟨a, ha, rfl⟩
  · rw [x10_noCompany c0 hx, x11_noCompany m0 hn hx]
    exact zrel_same h
  rw [x10_isCompany c0 hn ha, x11_isCompany m0 hn ha]
  simp only [Option.bind_some]
  rw [if_neg i10, if_neg i10]
  simp only [ix_nI (show a < 12 by omega) (show 12 < 2 ^ 31 by omega), Nat.add_zero]
  have m4 : σm.1 67 0 a = D 4 a := v.2.1.2.1.2.2.2 4 a (by omega) ha
  have m5 : σm.1 68 0 a = D 5 a := v.2.1.2.1.2.2.2 5 a (by omega) ha
  have m6 : σm.1 69 0 a = D 6 a := v.2.1.2.1.2.2.2 6 a (by omega) ha
  rw [show σc.1 34 0 a = D 4 a from v.1.2.1.2.2.2.2.2.2.1 4 a (by omega) (by omega) (by omega) ha, show σc.1 35 0 a = D 5 a from v.1.2.1.2.2.2.2.2.2.1 5 a (by omega) (by omega) (by omega) ha, show σc.1 36 0 a = D 6 a from v.1.2.1.2.2.2.2.2.2.1 6 a (by omega) (by omega) (by omega) ha]
  rcases num_case y 3 (by omega) with hy | ⟨b, hb, rfl⟩
  · have hne : ∀ k, k < 3 → y ≠ nI k := fun k hk e => by
      rcases hy with q | q
      · rw [e] at q; exact nI_nneg (by omega) q
      · rw [e] at q; exact nI_ge hk (by omega) q
    rw [in_0 (A := 0) (B := 2) 0 2 rfl rfl (hy.imp id (fun q => by
      have := le_pred (by omega) q
      exact this))]
    simp only [Option.bind_some]
    rw [if_neg (show ¬ y = (0 : Int32) from fun e => hne 0 (by omega) e), if_neg (show ¬ y = (1 : Int32) from fun e => hne 1 (by omega) e), if_neg (show ¬ y = (2 : Int32) from fun e => hne 2 (by omega) e), if_pos trivial]
    exact zrel_same h
  · have : b = 0 ∨ b = 1 ∨ b = 2 := by omega
    rcases this with rfl | rfl | rfl
    · rw [if_pos nI_0, in_1 (A := 0) (B := 2) 0 2 rfl rfl (by decide) (by decide)]
      simp only [Option.bind_some]
      rw [if_neg i10, if_pos nI_0, m4]
      exact zrel_same h
    · rw [if_neg (by decide), if_pos nI_one, in_1 (A := 0) (B := 2) 0 2 rfl rfl (by decide) (by decide)]
      simp only [Option.bind_some]
      rw [if_neg (by decide), if_neg (by decide), if_pos nI_one, m5]
      exact zrel_same h
    · rw [if_neg (by decide), if_neg (by decide), if_pos (show nI 2 = 2 from rfl), in_1 (A := 0) (B := 2) 0 2 rfl rfl (by decide) (by decide)]
      simp only [Option.bind_some]
      rw [if_neg (by decide), if_neg (by decide), if_neg (by decide), m6]
      exact zrel_same h
theorem r_count {σc σm : zH} (h : qR σc σm) (x : Int32) : zrel (d_X10_count σc x) (d_X11_count σm x) qR := by
  obtain ⟨E, wt, D, v⟩ := h.2.2.1
  obtain ⟨t, t1, t2, t3, -⟩ := h.1
  obtain ⟨L, l1, l2, l3, -⟩ := h.2.1
  obtain ⟨p, m, st, -, -, -, ⟨sz, q, -, -, -, a10, a11, -⟩, b8, b, b1, b2, b3, -⟩ := v
  have hall : ∀ (c d : Int32) (P Q : Option (zH × Int32)), c = d → zrel P Q qR → zrel (if x = x then some (σc, c) else P) (if x = x then some (σm, d) else Q) qR := fun c d P Q e _ => by
    rw [if_pos rfl, if_pos rfl, e]; exact zrel_same h
  have hst : ∀ (k c d : Int32) (P Q : Option (zH × Int32)), c = d → zrel P Q qR → zrel (if x = k then some (σc, c) else P) (if x = k then some (σm, d) else Q) qR := fun k c d P Q e hq => by
    by_cases ek : x = k
    · rw [if_pos ek, if_pos ek, e]; exact zrel_same h
    · rw [if_neg ek, if_neg ek]; exact hq
  unfold d_X10_count d_X11_count
  refine hst _ _ _ _ _ ?_ (hst _ _ _ _ _ ?_ (hst _ _ _ _ _ ?_ (hst _ _ _ _ _ ?_ (hst _ _ _ _ _ ?_ ?_))))
  · rw [show σc.1 0 (0 + 1) 0 = nI (qeN E) from p.1.2.1, m.1.2.1]
  · rw [show σc.1 0 (0 + 1) 5 = nI b from b2, b3]
  · exact b8
  · rw [l2, l3]
  · rw [p.2.1.1, m.2.1.1]
  · rw [x11_upSet m.1 m.2.1]
    simp only [Option.bind_some]
    rw [x11_menUp m.1]
    simp only [Option.bind_some]
    refine hst _ _ _ _ _ ?_ (hst _ _ _ _ _ ?_ (hst _ _ _ _ _ ?_ (hst _ _ _ _ _ ?_ (hst _ _ _ _ _ ?_ (hst _ _ _ _ _ ?_ (hst _ _ _ _ _ ?_ (hst _ _ _ _ _ ?_ (hst _ _ _ _ _ ?_ (zrel_same h)))))))))
    · exact p.2.1.2.2.2.2.1
    · exact st.1
    · exact st.2
    · rw [p.2.1.2.2.2.2.2.1, m.2.1.2.2.1]
    · rw [p.2.1.2.2.1, m.1.2.2.2.2.2.1]
    · rw [a10, a11]
    · rw [p.2.1.2.1, m.2.1.2.1]
    · rw [t2, t3]
    · rw [show σc.1 0 (0 + 1) 12 = wt from p.2.2.2, m.2.2.2]
theorem r_lie {σc σm : zH} (h : qR σc σm) (x y : Int32) (hy : y = 0 ∨ y = 1) : zrel (d_X10_lie σc x y) (d_X11_lie σm x y) qR := by
  obtain ⟨E, wt, D, v⟩ := h.2.2.1
  have hn := v.1.1.1
  have c0 : σc.1 0 1 0 = nI (qeN E) := v.1.1.2.1
  have m0 : σm.1 42 0 0 = nI (qeN E) := v.2.1.1.2.1
  unfold d_X10_lie d_X11_lie
  rcases num_case x (qeN E) (by omega) with hx | ⟨a, ha, rfl⟩
  · rw [x10_noCompany c0 hx, x11_noCompany m0 hn hx]
    exact zrel_same h
  rw [x10_isCompany c0 hn ha, x11_isCompany m0 hn ha]
  simp only [Option.bind_some]
  rw [if_neg i10, if_neg i10]
  rw [ix_nI (show a < 12 by omega) (show 12 < 2 ^ 31 by omega), x8_asleep v.1.1 v.1.2.1 ha, show σm.1 62 0 a = D 0 a from v.2.1.2.1.2.2.2 0 a (by omega) ha]
  simp only [Option.bind_some]
  have q0 : rQb σc 0 0 E D (σc.1 8 0 16) σc := ⟨zsm.rf, v.1.2.1, v.1.2.2.1, rfl, fun _ _ _ => rfl⟩
  have m1 : rMQ σm 0 E D σm := ⟨zsm.rf, v.2.1.2.1, v.2.1.2.2.1, fun _ _ _ _ => rfl, fun _ => rfl⟩
  have fin : ∀ is σc' σm', rQb σc 0 0 E (qchg D a is 1 (-1)) (σc.1 8 0 16) σc' → rMQ σm 0 E (qchg D a is 1 (-1)) σm' → qR σc' σm' := fun is σc' σm' g1 g2 => by
    refine live_step h v g1.1 ⟨g1.C v.1.1, g1.2.1, g1.2.2.1, ?_⟩ ?_ g2 (qchg_7 0)
    · rw [(g1.1 0 1 (by unfold F8; omega)).1]; exact v.1.2.2.2
    · unfold cst
      rw [g1.2.2.2.2 12 (by omega) (by omega), g1.2.2.2.2 13 (by omega) (by omega), g1.2.2.2.2 14 (by omega) (by omega)]
  rcases (v.1.2.2.1.1 a ha).1 with e | e
  · -- up
    rw [show qdown D a = false by unfold qdown; rw [e]; rfl, if_neg (show ¬ D 0 a = 1 by rw [e]; decide), b2i_f]
    unfold j_X11_lie_23 j_X11_lie_41 j_X11_lie_52
    rcases hy with rfl | rfl
    · rw [if_pos rfl, if_pos rfl]
      exact zrel_same h
    · rw [if_neg (by decide), if_neg (by decide), if_neg (by decide), if_neg (by decide), x8_bedIsTaken v.1.1 v.1.2.1 ha, x11_isFree v.2.1.1 v.2.1.2.1 ha]
      simp only [Option.bind_some]
      cases ht : qtaken E D a with
      | true =>
        rw [if_neg (show ¬ b2i true = 0 by decide), if_pos (show b2i (!true) = 0 from rfl)]
        exact zrel_same h
      | false =>
        rw [if_pos (show b2i false = 0 from rfl), if_neg (show ¬ b2i (!false) = 0 by decide), if_neg (by decide)]
        obtain ⟨σ1, g1, g2⟩ := x8_lieDown_b v.1.1 q0 ha e 1 (-1)
        obtain ⟨σ2, g3, g4⟩ := x11_changes m1 ha (Or.inr rfl) 1 (-1)
        rw [g1, g3]
        exact zrel_same (fin 1 _ _ g2 g4)
  · -- asleep
    rw [show qdown D a = true by unfold qdown; rw [e]; rfl, if_pos e, b2i_t]
    unfold j_X11_lie_23 j_X11_lie_41 j_X11_lie_52
    rcases hy with rfl | rfl
    · rw [if_neg (by decide), if_pos rfl, if_neg (by decide), if_pos rfl, if_pos rfl]
      obtain ⟨σ1, g1, g2⟩ := x8_getUp_b v.1.1 q0 ha (by rw [e]; decide) 1 (-1)
      obtain ⟨σ2, g3, g4⟩ := x11_changes m1 ha (Or.inl rfl) 1 (-1)
      rw [g1, g3]
      exact zrel_same (fin 0 _ _ g2 g4)
    · rw [if_pos rfl, if_pos rfl]
      exact zrel_same h
theorem r_tires {σc σm : zH} (h : qR σc σm) (x y : Int32) : zrel (d_X10_tires σc x y) (d_X11_tires σm x y) qR := by
  obtain ⟨E, wt, D, v⟩ := h.2.2.1
  have hn := v.1.1.1
  have c0 : σc.1 0 1 0 = nI (qeN E) := v.1.1.2.1
  have m0 : σm.1 42 0 0 = nI (qeN E) := v.2.1.1.2.1
  unfold d_X10_tires d_X11_tires
  rcases num_case x (qeN E) (by omega) with hx | ⟨a, ha, rfl⟩
  · rw [x10_noCompany c0 hx, x11_noCompany m0 hn hx]
    exact zrel_same h
  rw [x10_isCompany c0 hn ha, x11_isCompany m0 hn ha]
  simp only [Option.bind_some]
  rw [if_neg i10, if_neg i10]
  by_cases h1 : y < 0
  · rw [if_pos h1, in_0 (A := 0) (B := 999) 0 999 rfl rfl (Or.inl h1)]
    exact zrel_same h
  rw [if_neg h1]
  by_cases h2 : (999 : Int32) < y
  · rw [if_pos h2, in_0 (A := 0) (B := 999) 0 999 rfl rfl (Or.inr h2)]
    exact zrel_same h
  rw [if_neg h2, in_1 (A := 0) (B := 999) 0 999 rfl rfl h1 h2]
  simp only [Option.bind_some]
  rw [if_neg i10]
  simp only [ix_nI (show a < 12 by omega) (show 12 < 2 ^ 31 by omega), Nat.add_zero, zlet]
  rw [show σc.1 31 0 a = D 1 a from v.1.2.1.2.2.2.2.2.2.1 1 a (by omega) (by omega) (by omega) ha, show σm.1 63 0 a = D 1 a from v.2.1.2.1.2.2.2 1 a (by omega) ha]
  refine zrel_same ?_
  have d0 : ∀ r i, ¬ (r = 1 ∧ i = a) → dU D 1 a y r i = D r i := fun r i hh => dU_ne D y hh
  have hO := v.1.2.2.1
  have hO' : qOK E (dU D 1 a y) := by
    refine ⟨fun i hi => ?_, by rw [d0 _ _ (by omega)]; exact hO.2.1, by rw [d0 _ _ (by omega)]; exact hO.2.2.1, hO.2.2.2⟩
    obtain ⟨o1, o2, o3, o4, o5⟩ := hO.1 i hi
    rw [d0 0 i (by omega), d0 2 i (by omega)]
    refine ⟨o1, ?_, ?_, o4, o5⟩
    · by_cases e : i = a
      · subst e
        rw [dU_eq]
        rw [fa_lt, i32_0] at h1
        omega
      · rw [d0 1 i (by omega)]; exact o2
    · by_cases e : i = a
      · subst e
        rw [dU_eq]
        rw [fa_lt, i32_999] at h2
        omega
      · rw [d0 1 i (by omega)]; exact o3
  have hm : qmen E (dU D 1 a y) = qmen E D := qsum_cong (fun i _ => by rw [d0 0 i (by omega)])
  have hk : qmask (qdown (dU D 1 a y)) (qeN E) = qmask (qdown D) (qeN E) := qmask_cong (fun i _ => by unfold qdown; rw [d0 0 i (by omega)])
  have z : zsm (F8 0) σc (uI σc 31 0 a y) := zsm.rf.uI (Or.inr (Or.inl ⟨by omega, by omega, rfl⟩)) _ _
  refine live_step (D' := dU D 1 a y) h v z ⟨v.1.1.mv (fun k hk => (z k 1 (by unfold F8; omega)).1), ⟨?_, ?_, ?_, ?_, ?_, ?_, ?_, ?_⟩, hO', by rw [(z 0 1 (by unfold F8; omega)).1]; exact v.1.2.2.2⟩ (by unfold cst; simp [uI_1]) ⟨zsm.rf.uI (Or.inr (Or.inl (by omega))) _ _, ⟨?_, ?_, ?_, ?_⟩, hO', fun j _ _ _ => by simp [uI_1], fun j => by simp [uI_1]⟩ (d0 7 0 (by omega))
  · rw [d0 7 0 (by omega)]; simpa [uI_1] using v.1.2.1.1
  · rw [d0 7 1 (by omega)]; simpa [uI_1] using v.1.2.1.2.1
  · simpa [uI_1] using v.1.2.1.2.2.1
  · rw [hk]; simpa [uI_1] using v.1.2.1.2.2.2.1
  · rw [hm]; simpa [uI_1] using v.1.2.1.2.2.2.2.1
  · rw [d0 7 2 (by omega)]; simpa [uI_1] using v.1.2.1.2.2.2.2.2.1
  · intro r i hr hr0 hr3 hi
    have hb := v.1.2.1.2.2.2.2.2.2.1 r i hr hr0 hr3 hi
    by_cases e1 : r = 1 ∧ i = a
    · obtain ⟨rfl, rfl⟩ := e1
      rw [dU_eq]; simp [uI_1]
    · rw [d0 r i e1, ← hb, uI_1, if_neg (by omega)]
  · intro i hi
    rw [d0 3 i (by omega)]
    simpa [uI_1] using v.1.2.1.2.2.2.2.2.2.2 i hi
  · rw [d0 7 0 (by omega)]; simpa [uI_1] using v.2.1.2.1.1
  · rw [d0 7 1 (by omega)]; simpa [uI_1] using v.2.1.2.1.2.1
  · rw [d0 7 2 (by omega)]; simpa [uI_1] using v.2.1.2.1.2.2.1
  · intro r i hr hi
    have hb := v.2.1.2.1.2.2.2 r i hr hi
    by_cases e1 : r = 1 ∧ i = a
    · obtain ⟨rfl, rfl⟩ := e1
      rw [dU_eq]; simp [uI_1, mrow]
    · rw [d0 r i e1, ← hb, uI_1, if_neg (fun q => e1 ⟨mrow_inj (r' := 1) q.1, q.2.2⟩)]
theorem r_seed {σc σm : zH} (h : qR σc σm) (x : Int32) : zrel (d_X10_seed σc x) (d_X11_seed σm x) qR := by
  obtain ⟨E, wt, D, v⟩ := h.2.2.1
  unfold d_X10_seed d_X11_seed
  by_cases h1 : x < 0
  · rw [if_pos h1, if_pos h1]; exact zrel_same h
  rw [if_neg h1, if_neg h1]
  simp only [zlet]
  rw [v.1.2.1.2.1, v.2.1.2.1.2.1]
  have hx : 0 ≤ x.toInt := by
    rw [fa_lt, i32_0] at h1
    omega
  have d0 : ∀ r i, ¬ (r = 7 ∧ i = 1) → dU D 7 1 x r i = D r i := fun r i hh => dU_ne D x hh
  have hO := v.1.2.2.1
  have hm : qmen E (dU D 7 1 x) = qmen E D := qsum_cong (fun i _ => by rw [d0 0 i (by omega)])
  have hk : qmask (qdown (dU D 7 1 x)) (qeN E) = qmask (qdown D) (qeN E) := qmask_cong (fun i _ => by unfold qdown; rw [d0 0 i (by omega)])
  have m1 : rMQ σm 0 E D σm := ⟨zsm.rf, v.2.1.2.1, v.2.1.2.2.1, fun _ _ _ _ => rfl, fun _ => rfl⟩
  have m2 := m1.draw x hx
  have z : zsm (F8 0) σc (uI σc 8 0 2 x) := zsm.rf.uI (Or.inl ⟨rfl, rfl⟩) _ _
  refine zrel_same (live_step (D' := dU D 7 1 x) h v z ⟨v.1.1.mv (fun k hk => (z k 1 (by unfold F8; omega)).1), ⟨?_, ?_, ?_, ?_, ?_, ?_, ?_, ?_⟩, m2.2.2.1, by rw [(z 0 1 (by unfold F8; omega)).1]; exact v.1.2.2.2⟩ (by unfold cst; simp [uI_1]) m2 (d0 7 0 (by omega)))
  · rw [d0 7 0 (by omega)]; simpa [uI_1] using v.1.2.1.1
  · rw [dU_eq]; simp [uI_1]
  · simpa [uI_1] using v.1.2.1.2.2.1
  · rw [hk]; simpa [uI_1] using v.1.2.1.2.2.2.1
  · rw [hm]; simpa [uI_1] using v.1.2.1.2.2.2.2.1
  · rw [d0 7 2 (by omega)]; simpa [uI_1] using v.1.2.1.2.2.2.2.2.1
  · intro r i hr hr0 hr3 hi
    rw [d0 r i (by omega), ← v.1.2.1.2.2.2.2.2.2.1 r i hr hr0 hr3 hi, uI_1, if_neg (by omega)]
  · intro i hi
    rw [d0 3 i (by omega)]
    simpa [uI_1] using v.1.2.1.2.2.2.2.2.2.2 i hi
theorem rC.wf {σ : zH} {c : Nat} {E : qE} (h : rC σ c E) (f : Int32) : rC σ c (qwf E f) := h
theorem r_feast {σc σm : zH} (h : qR σc σm) (x : Int32) : zrel (d_X10_feast σc x) (d_X11_feast σm x) qR := by
  obtain ⟨E, wt, D, v⟩ := h.2.2.1
  unfold d_X10_feast d_X11_feast
  by_cases h1 : x < 0
  · rw [if_pos h1, in_0 (A := 0) (B := 96) 0 96 rfl rfl (Or.inl h1)]; exact zrel_same h
  rw [if_neg h1]
  by_cases h2 : (96 : Int32) < x
  · rw [if_pos h2, in_0 (A := 0) (B := 96) 0 96 rfl rfl (Or.inr h2)]; exact zrel_same h
  rw [if_neg h2, in_1 (A := 0) (B := 96) 0 96 rfl rfl h1 h2]
  simp only [Option.bind_some]
  rw [if_neg i10]
  simp only [zlet]
  rw [v.1.2.1.1, v.2.1.2.1.1]
  generalize hf : D 7 0 + x = f
  have e1 : (uI σc 8 0 3 f).1 8 0 3 = f := by simp [uI_1]
  have e2 : (uI σm 42 0 8 f).1 42 0 8 = f := by simp [uI_1]
  rw [e1, e2]
  refine zrel_same ?_
  have z : zsm (F8 0) σc (uI σc 8 0 3 f) := zsm.rf.uI (Or.inl ⟨rfl, rfl⟩) _ _
  have zm : zsm (fun k _ => k = 42) σm (uI σm 42 0 8 f) := (zsm.rf (F := fun k _ => k = 42)).uI (k := 42) (i := 0) rfl 8 f
  refine h.l (z.mono (fun k i hk => by unfold Gl Gc; unfold F8 at hk; omega)) (fun k hk => (zm k 0 (by omega)).1) (fun j _ => by rw [(zm 11 0 (by omega)).1]) ⟨qwf E f, wt, D, ?_⟩
  have hC : rC (uI σc 8 0 3 f) 1 (qwf E f) := (v.1.1.mv (fun k hk => (z k 1 (by unfold F8; omega)).1)).wf f
  obtain ⟨s1, s2, s3, s4, s5, s6, s7, s8⟩ := v.1.2.1
  have hS : rS 0 (uI σc 8 0 3 f) 0 (qwf E f) D := by
    refine ⟨?_, ?_, ?_, ?_, ?_, ?_, ?_, ?_⟩
    · simpa [uI_1] using s1
    · simpa [uI_1] using s2
    · exact e1
    · have : (uI σc 8 0 3 f).1 8 0 4 = σc.1 8 0 4 := by simp [uI_1]
      rw [this]; exact s4
    · have : (uI σc 8 0 3 f).1 8 0 5 = σc.1 8 0 5 := by simp [uI_1]
      rw [this]; exact s5
    · have : (uI σc 8 0 3 f).1 8 0 15 = σc.1 8 0 15 := by simp [uI_1]
      rw [this]; exact s6
    · intro r i hr hr0 hr3 hi
      rw [uI_1, if_neg (by omega)]
      exact s7 r i hr hr0 hr3 hi
    · intro i hi
      rw [uI_1, if_neg (by omega)]
      exact s8 i hi
  have hM : rMC (uI σm 42 0 8 f) (-1) (qwf E f) := by
    obtain ⟨c1, c2, c3, ⟨b, c4, c5, c6⟩, ⟨d, c7, c8, c9⟩, c10, c11⟩ := v.2.1.1
    have u : ∀ k j, ¬ (k = 42 ∧ j = 8) → (uI σm 42 0 8 f).1 k 0 j = σm.1 k 0 j := fun k j hh => by rw [uI_1, if_neg (by omega)]
    refine ⟨c1, by rw [u _ _ (by omega)]; exact c2, fun r i hr hi => by rw [u _ _ (by omega)]; exact c3 r i hr hi, ⟨b, c4, by rw [u _ _ (by omega)]; exact c5, ?_⟩, ⟨d, c7, by rw [u _ _ (by omega)]; exact c8, ?_⟩, e2, by rw [u _ _ (by omega)]; exact c11⟩
    · rw [(zm 47 0 (by omega)).1, (zm 48 0 (by omega)).1]; exact c6
    · rw [(zm 49 0 (by omega)).1, (zm 50 0 (by omega)).1, (zm 51 0 (by omega)).1]; exact c9
  have hMS : rMS 0 (uI σm 42 0 8 f) (qwf E f) D := by
    obtain ⟨n1, n2, n3, n4⟩ := v.2.1.2.1
    refine ⟨?_, ?_, ?_, fun r i hr hi => ?_⟩
    · simpa [uI_1] using n1
    · simpa [uI_1] using n2
    · simpa [uI_1] using n3
    · have := mrow_lt hr
      rw [uI_1, if_neg (by omega)]
      exact n4 r i hr hi
  exact v.upd ⟨hC, hS, v.1.2.2.1, by rw [(z 0 1 (by unfold F8; omega)).1]; exact v.1.2.2.2⟩ ⟨hM, hMS, v.2.1.2.2.1, by rw [uI_1, if_neg (by omega)]; exact v.2.1.2.2.2⟩ rfl (by simp [uI_1]) (by simp [uI_1]) (by simp [uI_1]) (by simp [uI_1]) (by simp [uI_1]) (z 6 0 (by unfold F8; omega)).1 (z 30 0 (by unfold F8; omega)).1 (fun j _ => by simp [uI_1])
    (by rw [(z 0 1 (by unfold F8; omega)).1]) (by rw [(z 0 1 (by unfold F8; omega)).1]) (z 16 1 (by unfold F8; omega)).1 (z 17 1 (by unfold F8; omega)).1 (by simp [uI_1]) (by simp [uI_1]) (zm 47 0 (by omega)).1 (zm 48 0 (by omega)).1
