/-! THE REFERENCE: lying down, waking, snores -/
theorem draw_eq {x : Int32} (h : 0 ≤ x.toInt) : ((x.toInt64 * (1103515245 : Int64) + 12345) - (x.toInt64 * (1103515245 : Int64) + 12345) / 2147483648 * 2147483648).toInt32 = qdraw x := by
  obtain ⟨n, hn, rfl⟩ := nI_of (x := x) (by rw [fa_lt, i32_0]; omega)
  unfold qdraw
  rw [pk_and _ 31 (by decide +kernel), nI_l hn]
  have e1 : lN n * (1103515245 : Int64) + 12345 = lN (n * 1103515245 + 12345) := by
    rw [← lN_add, ← lN_mul]; rfl
  have e2 : nI n * (1103515245 : Int32) + 12345 = nI (n * 1103515245 + 12345) := by
    rw [← nI_add, ← pk_mul]; rfl
  rw [e1, e2]
  have hb : n * 1103515245 + 12345 < 2 ^ 63 := by
    have : n * 1103515245 ≤ 2147483648 * 1103515245 := Nat.mul_le_mul_right _ (by omega)
    omega
  rw [show (2147483648 : Int64) = lN 2147483648 from rfl, pk_lRem hb (by omega) (by omega), lN_i]
  refine congrArg nI ?_
  show _ = (BitVec.ofNat 32 (n * 1103515245 + 12345)).toNat % 2 ^ 31
  rw [BitVec.toNat_ofNat]
  omega
theorem ne_m1 {i : Nat} (h : i < 2 ^ 31) : ¬ nI i = -1 := fun q => by
  have := congrArg Int32.toInt q
  rw [nI_toInt h, i32_m1] at this
  omega
theorem rMQ.L {σ0 : zH} {W : Int32} {E : qE} {D : qD} {σ : zH} {r : Nat} {cl : List (Bool × List qop)} (h : rMQ σ0 W E D σ) (hL : rML σ0 r cl) : rML σ r cl :=
  hL.mv (fun k hk => (h.1 k 0 (by unfold FM; omega)).1)
section
variable {W w : Int32} {σ0 : zH} {E : qE} {r : Nat} {cl : List (Bool × List qop)}
theorem x11_holds (hC : rMC σ0 w E) (hL : rML σ0 r cl) (hE : qeL E = qlaw cl) {D : qD} {σ : zH} (h : rMQ σ0 W E D σ) {c : Nat} (hc : c < qeN E) (sl : Bool) :
    zwp (d_X11_some σ (nI r) (b2i (!sl)) (nI c)) (fun p => rMQ σ0 W E D p.1 ∧ p.2 = b2i (qeL E sl (qval E D c))) :=
  zwp_mono (x11_some (h.C hC) h.2.1 (h.L hL) hE hc sl) (fun _ hp => ⟨h.mv2 hp.1 hp.2.1, hp.2.2⟩)
theorem rMQ.warm {D : qD} {σ : zH} (h : rMQ σ0 W E D σ) (x : Int32) : rMQ σ0 W E (dU D 7 2 (D 7 2 + x)) (uI σ 42 0 7 (σ.1 42 0 7 + x)) := by
  obtain ⟨hz, hS, hO, hT, hG⟩ := h
  have hd : ∀ r i, r ≠ 7 → dU D 7 2 (D 7 2 + x) r i = D r i := fun r i h => dU_ne D _ (fun q => h q.1)
  have hd0 : dU D 7 2 (D 7 2 + x) 7 0 = D 7 0 := dU_ne D _ (by omega)
  have hd1 : dU D 7 2 (D 7 2 + x) 7 1 = D 7 1 := dU_ne D _ (by omega)
  refine ⟨hz.uI (Or.inl rfl) _ _, ⟨?_, ?_, ?_, ?_⟩, ⟨fun i hi => ?_, ?_, ?_, hO.2.2.2⟩, ?_, ?_⟩
  · rw [hd0]; simpa [uI_1] using hS.1
  · rw [hd1]; simpa [uI_1] using hS.2.1
  · rw [dU_eq]
    simp only [uI_1]
    simp
    rw [hS.2.2.1, Int32.add_assoc]
  · intro r i hr hi
    have := mrow_lt hr
    rw [hd r i (by omega), ← hS.2.2.2 r i hr hi]
    simp [uI_1, show mrow r ≠ 42 by omega]
  · rw [hd 0 i (by omega), hd 1 i (by omega), hd 2 i (by omega)]; exact hO.1 i hi
  · rw [hd1]; exact hO.2.1
  · rw [hd0]; exact hO.2.2.1
  · intro j h4 h7 h10
    rw [← hT j h4 h7 h10]
    simp [uI_1, h7]
  · intro j
    rw [← hG j]
    simp [uI_1]
theorem x11_lieDown (hC : rMC σ0 w E) (hL : rML σ0 r cl) (hE : qeL E = qlaw cl) {D : qD} {σ : zH} (h : rMQ σ0 W E D σ) : zwp (d_X11_lieDown σ (nI r)) (rMQ σ0 W E (qq1 E D)) := by
  have hn := hC.1
  unfold d_X11_lieDown qq1
  rw [nI_c0]
  refine zwp_for (fun f i (σ' : zH) => k_X11_lieDown_2 f σ' (nI r) (nI i)) (fun i σ' => rMQ σ0 W E (qfor (qlie1 E) i D) σ') _ 0 (qeN E) (by omega) (by omega) ?_ ?_ σ (by rw [qfor_0]; exact h)
  · intro f i σ' hi hI IH
    generalize hD : qfor (qlie1 E) i D = D' at hI
    have hgo : ∀ σ'', rMQ σ0 W E D' σ'' → qlie1 E i D' = D' → zwp (k_X11_lieDown_2 f σ'' (nI r) (nI i + 1)) (rMQ σ0 W E (qfor (qlie1 E) (qeN E) D)) := fun σ'' h1 h2 => by
      rw [nI_1]
      exact IH σ'' (by rw [qfor, hD, h2]; exact h1)
    have hC1 := hI.C hC
    rw [k_X11_lieDown_2, hC1.2.1, if_pos (nI_lt hi (by omega)), ix_nI (by omega) (by omega), show σ'.1 62 0 i = D' 0 i from hI.2.1.2.2.2 0 i (by omega) hi]
    refine zwp_if (fun ha => ?_) (fun ha => hgo _ hI (by unfold qlie1; rw [if_neg (fun q => ha q.1)]))
    rw [x11_hasDuty hC1 hI.2.1]
    simp only [Option.bind_some]
    refine zwp_if (fun e1 => ?_) (fun e1 => ?_)
    · rw [b2i_0, Bool.not_eq_false', decide_eq_true_eq] at e1
      rw [x11_isFeast hC1 hI.2.1]
      simp only [Option.bind_some]
      refine zwp_if (fun e2 => ?_) (fun e2 => ?_)
      · rw [b2i_0, decide_eq_false_iff_not] at e2
        rw [x11_isFree hC1 hI.2.1 hi]
        simp only [Option.bind_some]
        refine zwp_if (fun e3 => ?_) (fun e3 => ?_)
        · rw [b2i_0, Bool.not_eq_false'] at e3
          exact hgo _ hI (by unfold qlie1; rw [if_neg (fun q => by rw [q.2.2.2.1] at e3; cases e3)])
        · rw [b2i_0, Bool.not_eq_false', Bool.not_eq_true] at e3
          refine zwp_to (x11_holds hC hL hE hI hi true) (fun p hp => ?_)
          rw [hp.2]
          refine zwp_if (fun e4 => ?_) (fun e4 => ?_)
          · rw [b2i_0] at e4
            exact hgo _ hp.1 (by unfold qlie1; rw [if_neg (fun q => by rw [q.2.2.2.2] at e4; cases e4)])
          · rw [b2i_0, Bool.not_eq_false] at e4
            have hq := hp.1
            have hCq := hq.C hC
            rw [x11_isWarm hCq hq.2.1 hi]
            simp only [Option.bind_some]
            have hl1 : qlie1 E i D' = qchg (dU D' 7 2 (D' 7 2 + (if qwarm E D' i then qeR E 0 i else 0))) i 1 3 (qeB E (qrem (D' 7 0))) := by
              unfold qlie1
              rw [if_pos ⟨ha, e1, e2, e3, e4⟩]
            have hfin : ∀ x, x = (if qwarm E D' i then qeR E 0 i else 0) → zwp (j_X11_lieDown_80 (k_X11_lieDown_2 f) p.1 (nI r) (nI i) (7 : Int32) (p.1.1 42 0 7) x) (rMQ σ0 W E (qfor (qlie1 E) (qeN E) D)) := fun x hx => by
              unfold j_X11_lieDown_80
              rw [show (7 : Int32) = nI 7 from rfl, ix_nI (by omega) (by omega)]
              refine zwp_let.mpr ?_
              have hw := hq.warm x
              rw [x11_bellNow (hw.C hC) hw.2.1]
              simp only [Option.bind_some]
              refine zwp_to (x11_changes hw hi (Or.inr rfl) 3 _) (fun σ3 h3 => ?_)
              rw [nI_1]
              refine IH σ3 ?_
              rw [qfor, hD, hl1, ← hx]
              rw [dU_ne D' _ (show ¬ (7 = 7 ∧ 0 = 2) by omega)] at h3
              exact h3
            refine zwp_if (fun e5 => ?_) (fun e5 => ?_)
            · rw [b2i_0] at e5
              exact hfin 0 (by rw [e5]; rfl)
            · rw [b2i_0, Bool.not_eq_false] at e5
              rw [ix_nI (by omega) (by omega)]
              exact hfin _ (by rw [e5, if_pos rfl]; exact hCq.2.2.1 0 i (by omega) hi)
      · rw [b2i_0, decide_eq_false_iff_not, Classical.not_not] at e2
        exact hgo _ hI (qlie1_fe _ e2)
    · rw [b2i_0, Bool.not_eq_false', decide_eq_true_eq] at e1
      exact hgo _ hI (by unfold qlie1; rw [if_neg (fun q => e1 q.2.1)])
  · intro f σ' hI
    rw [k_X11_lieDown_2, (hI.C hC).2.1, if_neg (nI_nlt (Nat.le_refl _) (by omega))]
    exact zwp_some.mpr hI
theorem x11_wakes (hC : rMC σ0 w E) (hL : rML σ0 r cl) (hE : qeL E = qlaw cl) {D : qD} {σ : zH} (h : rMQ σ0 W E D σ) {c : Nat} (hc : c < qeN E) : zwp (d_X11_wakes σ (nI r) (nI c)) (rMQ σ0 W E (qwake1 E c D)) := by
  have hC1 := h.C hC
  unfold d_X11_wakes
  rw [x11_hasDuty hC1 h.2.1]
  simp only [Option.bind_some]
  refine zwp_if (fun e1 => ?_) (fun e1 => ?_)
  · rw [b2i_0, Bool.not_eq_false', decide_eq_true_eq] at e1
    rw [x11_isFeast hC1 h.2.1]
    simp only [Option.bind_some]
    refine zwp_if (fun e2 => ?_) (fun e2 => ?_)
    · rw [b2i_0, decide_eq_false_iff_not] at e2
      refine zwp_to (x11_holds hC hL hE h hc false) (fun p hp => ?_)
      rw [hp.2]
      refine zwp_if (fun e4 => ?_) (fun e4 => ?_)
      · rw [b2i_0] at e4
        refine zwp_some.mpr ?_
        unfold qwake1
        rw [if_pos e1, if_neg e2, if_neg (by rw [e4]; decide)]
        exact hp.1
      · rw [b2i_0, Bool.not_eq_false] at e4
        rw [x11_bellNow (hp.1.C hC) hp.1.2.1]
        simp only [Option.bind_some]
        refine zwp_to (x11_changes hp.1 hc (Or.inl rfl) 6 _) (fun σ3 h3 => zwp_some.mpr ?_)
        unfold qwake1
        rw [if_pos e1, if_neg e2, if_pos e4]
        exact h3
    · rw [b2i_0, decide_eq_false_iff_not, Classical.not_not] at e2
      refine zwp_to (x11_changes h hc (Or.inl rfl) 5 _) (fun σ3 h3 => zwp_some.mpr ?_)
      unfold qwake1
      rw [if_pos e1, if_pos e2]
      exact h3
  · rw [b2i_0, Bool.not_eq_false', decide_eq_true_eq] at e1
    rw [x11_dutyNow hC1 h.2.1]
    simp only [Option.bind_some]
    refine zwp_to (x11_changes h hc (Or.inl rfl) 4 _) (fun σ3 h3 => zwp_some.mpr ?_)
    unfold qwake1
    rw [if_neg e1]
    exact h3
theorem rMQ.draw {D : qD} {σ : zH} (h : rMQ σ0 W E D σ) (x : Int32) (hx : 0 ≤ x.toInt) : rMQ σ0 W E (dU D 7 1 x) (uI σ 42 0 10 x) := by
  obtain ⟨hz, hS, hO, hT, hG⟩ := h
  have hd : ∀ r i, r ≠ 7 → dU D 7 1 x r i = D r i := fun r i h => dU_ne D _ (fun q => h q.1)
  have hd0 : dU D 7 1 x 7 0 = D 7 0 := dU_ne D _ (by omega)
  have hd2 : dU D 7 1 x 7 2 = D 7 2 := dU_ne D _ (by omega)
  refine ⟨hz.uI (Or.inl rfl) _ _, ⟨?_, ?_, ?_, ?_⟩, ⟨fun i hi => ?_, ?_, ?_, hO.2.2.2⟩, ?_, ?_⟩
  · rw [hd0]; simpa [uI_1] using hS.1
  · rw [dU_eq]; simp [uI_1]
  · rw [hd2]; simpa [uI_1] using hS.2.2.1
  · intro r i hr hi
    have := mrow_lt hr
    rw [hd r i (by omega), ← hS.2.2.2 r i hr hi]
    simp [uI_1, show mrow r ≠ 42 by omega]
  · rw [hd 0 i (by omega), hd 1 i (by omega), hd 2 i (by omega)]; exact hO.1 i hi
  · rw [dU_eq]; exact hx
  · rw [hd0]; exact hO.2.2.1
  · intro j h4 h7 h10
    rw [← hT j h4 h7 h10]
    simp [uI_1, h10]
  · intro j
    rw [← hG j]
    simp [uI_1]
theorem x11_neighbour {σ : zH} {D : qD} (hC : rMC σ w E) (hS : rMS W σ E D) (hO : qOK E D) {c : Nat} (hc : c < qeN E) :
    d_X11_neighbour σ (nI c) = some (σ, if qnext E D c = -1 then -1 else nI ((c + (qnext E D c).toNatClampNeg) % qeN E)) := by
  have hn := hC.1
  unfold qnext
  generalize hp : (fun k => decide (0 < k) && qdown D ((c + k) % qeN E) && decide (qeR E 1 ((c + k) % qeN E) = qeR E 1 c)) = p
  rw [← zwp_eq]
  unfold d_X11_neighbour
  rw [hC.2.1]
  rw [show k_X11_neighbour_9 zN σ (nI c) (nI (qeN E)) (1 : Int32) = k_X11_neighbour_9 zN σ (nI c) (nI (qeN E)) (nI 1) by rw [nI_one]]
  refine zwp_for (fun f i (_ : Unit) => k_X11_neighbour_9 f σ (nI c) (nI (qeN E)) (nI i)) (fun i _ => 0 < i ∧ qany p i = false) _ 1 (qeN E) (by omega) (by omega) ?_ ?_ () ⟨by omega, by rw [← hp]; rfl⟩
  · rintro f i _ hi ⟨h0, hI⟩ IH
    have hlt : (c + i) % qeN E < qeN E := Nat.mod_lt _ (by omega)
    have hpi : p i = (qdown D ((c + i) % qeN E) && decide (qeR E 1 ((c + i) % qeN E) = qeR E 1 c)) := by rw [← hp]; simp [h0]
    rw [k_X11_neighbour_9, if_pos (nI_lt hi (by omega)), nz_ne (nI_ne0 (by omega) (by omega)), nI_add, pk_rem (by omega) (by omega) (by omega)]
    generalize hm : (c + i) % qeN E = m at *
    simp only [ix_nI (show m < 12 by omega) (show 12 < 2 ^ 31 by omega), ix_nI (show c < 12 by omega) (show 12 < 2 ^ 31 by omega)]
    rw [show σ.1 62 0 m = D 0 m from hS.2.2.2 0 m (by omega) hlt, show σ.1 44 0 m = qeR E 1 m from hC.2.2.1 1 m (by omega) hlt, show σ.1 44 0 c = qeR E 1 c from hC.2.2.1 1 c (by omega) hc]
    have hgo : p i = false → zwp (k_X11_neighbour_9 f σ (nI c) (nI (qeN E)) (nI i + 1)) (fun a => a = (σ, if qfst p (qeN E) = -1 then -1 else nI ((c + (qfst p (qeN E)).toNatClampNeg) % qeN E))) := fun h9 => by
      rw [nI_1]
      exact IH () ⟨by omega, by rw [qany, hI, h9]; rfl⟩
    have hD := (hO.1 m hlt).1
    refine zwp_if (fun e1 => ?_) (fun e1 => ?_)
    · refine zwp_if (fun e2 => ?_) (fun e2 => hgo (by rw [hpi, decide_eq_false e2, Bool.and_false]))
      have hf : qfst p (qeN E) = nI i := qfst_of hI (by rw [hpi]; unfold qdown; rw [e1, decide_eq_true e2]; rfl) hi
      rw [hf, if_neg (ne_m1 (by omega)), nI_clamp (by omega), hm]
      exact zwp_some.mpr rfl
    · have : D 0 m = 0 := hD.resolve_right e1
      exact hgo (by rw [hpi]; unfold qdown; rw [this]; rfl)
  · rintro f _ ⟨-, hI⟩
    rw [k_X11_neighbour_9, if_neg (nI_nlt (Nat.le_refl _) (by omega)), qfst_no hI, if_pos rfl]
    exact zwp_some.mpr rfl
theorem x11_snores (hC : rMC σ0 w E) {D : qD} {σ : zH} (h : rMQ σ0 W E (qq2 E D) σ) : zwp (d_X11_snores σ) (rMQ σ0 W E (qq3 E D)) := by
  have hn := hC.1
  unfold d_X11_snores qq3
  rw [nI_c0]
  refine zwp_for (fun f i (σ' : zH) => k_X11_snores_2 f σ' (nI i)) (fun i σ' => rMQ σ0 W E (qfor (qsnore1 E) i (qq2 E D)) σ') _ 0 (qeN E) (by omega) (by omega) ?_ ?_ σ (by rw [qfor_0]; exact h)
  · intro f i σ' hi hI IH
    generalize hD : qfor (qsnore1 E) i (qq2 E D) = D' at hI
    have hgo : ∀ σ'', rMQ σ0 W E (qsnore1 E i D') σ'' → zwp (k_X11_snores_2 f σ'' (nI i + 1)) (rMQ σ0 W E (qfor (qsnore1 E) (qeN E) (qq2 E D))) := fun σ'' h1 => by
      rw [nI_1]
      exact IH σ'' (by rw [qfor, hD]; exact h1)
    have hC1 := hI.C hC
    have h01 := (hI.2.2.1.1 i hi).1
    rw [k_X11_snores_2, hC1.2.1, if_pos (nI_lt hi (by omega)), ix_nI (by omega) (by omega), show σ'.1 62 0 i = D' 0 i from hI.2.1.2.2.2 0 i (by omega) hi]
    refine zwp_if (fun e1 => ?_) (fun e1 => ?_)
    · have ha : ¬ D' 0 i = 0 := by rw [e1]; decide
      unfold d_X11_draws
      rw [hI.2.1.2.1, draw_eq hI.2.2.1.2.1]
      have hd := hI.draw _ (qdraw_0 (D' 7 1))
      simp only [zlet]
      rw [nz_ne (by decide)]
      simp only [Option.bind_some]
      rw [ix_nI (by omega) (by omega), hd.2.1.2.1, dU_eq, show (uI σ' 42 0 10 (qdraw (D' 7 1))).1 46 0 i = qeR E 3 i from (hd.C hC).2.2.1 3 i (by omega) hi]
      refine zwp_if (fun e2 => ?_) (fun e2 => ?_)
      · rw [x11_neighbour (hd.C hC) hd.2.1 hd.2.2.1 hi]
        simp only [Option.bind_some]
        have hx : qnext E (dU D' 7 1 (qdraw (D' 7 1))) i = qnext E D' i := by
          unfold qnext qdown
          rfl
        rw [hx]
        by_cases e3 : qnext E D' i = -1
        · rw [if_pos e3, if_pos rfl]
          refine hgo _ ?_
          unfold qsnore1
          rw [if_neg ha]
          dsimp only
          rw [if_pos e2, if_pos e3]
          exact hd
        · have hlt : (i + (qnext E D' i).toNatClampNeg) % qeN E < qeN E := Nat.mod_lt _ (by omega)
          rw [if_neg e3, if_neg (ne_m1 (by omega))]
          refine zwp_to (x11_changes hd hlt (Or.inl rfl) 7 (nI i)) (fun σ4 h4 => hgo _ ?_)
          unfold qsnore1
          rw [if_neg ha]
          dsimp only
          rw [if_pos e2, if_neg e3]
          exact h4
      · refine hgo _ ?_
        unfold qsnore1
        rw [if_neg ha]
        dsimp only
        rw [if_neg e2]
        exact hd
    · have ha : D' 0 i = 0 := h01.resolve_right e1
      exact hgo _ (by unfold qsnore1; rw [if_pos ha]; exact hI)
  · intro f σ' hI
    rw [k_X11_snores_2, (hI.C hC).2.1, if_neg (nI_nlt (Nat.le_refl _) (by omega))]
    exact zwp_some.mpr hI
end
