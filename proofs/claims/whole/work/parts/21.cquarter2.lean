/-! THE CLASS: who gets up; snores -/
theorem qlie1_up {E : qE} {c : Nat} {D : qD} {i : Nat} (h : D 0 i ≠ 0) : qlie1 E c D 0 i ≠ 0 := by
  unfold qlie1
  split
  · rename_i hq
    by_cases e : i = c
    · subst e; exact absurd hq.1 h
    · rw [qchg_ne _ e, dU_ne _ _ (by omega)]; exact h
  · exact h
theorem qq1_up {E : qE} {D : qD} {i : Nat} (h : D 0 i ≠ 0) : ∀ n, qfor (qlie1 E) n D 0 i ≠ 0
  | 0 => h
  | n + 1 => by rw [qfor]; exact qlie1_up (qq1_up h n)
theorem qwake1_ne {E : qE} {c : Nat} {D : qD} {i : Nat} (h : i ≠ c) (r : Nat) : qwake1 E c D r i = D r i := by
  unfold qwake1
  split
  · split
    · exact qchg_ne _ h
    · split
      · exact qchg_ne _ h
      · rfl
  · exact qchg_ne _ h
section
variable {σ0 : zH} {W : Int32} {s l : Nat} {E : qE} {cl : List (Bool × List qop)}
theorem x8_getUpBy (hC : rC σ0 (s + 1) E) (hL : rL σ0 l cl) (hE : qeL E = qlaw cl) {D : qD} {σ : zH} (h : rQ σ0 W s E (qq1 E D) σ) : zwp (d_X8_getUpBy σ s l (qmask (qdown D) (qeN E))) (rQ σ0 W s E (qq2 E D)) := by
  have hn := hC.1
  unfold d_X8_getUpBy qq2
  rw [nI_c0]
  refine zwp_for (fun f i (σ' : zH) => k_X8_getUpBy_2 f σ' s l (qmask (qdown D) (qeN E)) (nI i)) (fun i σ' => rQ σ0 W s E (qfor (fun c D' => if D 0 c = 0 then D' else qwake1 E c D') i (qq1 E D)) σ' ∧ ∀ j, i ≤ j → D 0 j ≠ 0 → qfor (fun c D' => if D 0 c = 0 then D' else qwake1 E c D') i (qq1 E D) 0 j ≠ 0) _ 0 (qeN E) (by omega) (by omega) ?_ ?_ σ ⟨h, fun j _ hj => qq1_up hj _⟩
  · rintro f i σ' hi ⟨hI, hJ⟩ IH
    generalize hD : qfor (fun c D' => if D 0 c = 0 then D' else qwake1 E c D') i (qq1 E D) = D' at hI hJ
    have hgo : ∀ σ'' D'', rQ σ0 W s E D'' σ'' → (if D 0 i = 0 then D' else qwake1 E i D') = D'' → zwp (k_X8_getUpBy_2 f σ'' s l (qmask (qdown D) (qeN E)) (nI i + 1)) (rQ σ0 W s E (qfor (fun c D' => if D 0 c = 0 then D' else qwake1 E c D') (qeN E) (qq1 E D))) := fun σ'' D'' h1 h2 => by
      rw [nI_1]
      refine IH σ'' ⟨?_, fun j hj hj2 => ?_⟩
      · rw [qfor, hD, h2]; exact h1
      · rw [qfor, hD]
        split
        · exact hJ j (by omega) hj2
        · rw [qwake1_ne (by omega)]
          exact hJ j (by omega) hj2
    have hC1 := hI.C hC
    rw [k_X8_getUpBy_2, hC1.2.1, if_pos (nI_lt hi (by omega)), bt_ask _ (by omega), bt_mask _ _ (by omega) _ (by omega), decide_eq_true hi, Bool.true_and]
    refine zwp_if (fun e1 => ?_) (fun e1 => ?_)
    · rw [b2i_0] at e1
      have ha : D 0 i = 0 := by unfold qdown at e1; simpa using e1
      exact hgo _ _ hI (if_pos ha)
    · rw [b2i_0, Bool.not_eq_false] at e1
      have ha : ¬ D 0 i = 0 := by unfold qdown at e1; simpa using e1
      have hup : D' 0 i ≠ 0 := hJ i (Nat.le_refl _) ha
      rw [x8_firstDuty hC hI]
      simp only [Option.bind_some]
      refine zwp_if (fun e2 => ?_) (fun e2 => ?_)
      · rw [hI.2.1.1, hI.2.1.2.2.1]
        refine zwp_if (fun e3 => ?_) (fun e3 => ?_)
        · refine zwp_to (x8_getUp hC hI hi hup 5 (-1)) (fun σ4 h4 => hgo _ _ h4 ?_)
          rw [if_neg ha]; unfold qwake1; rw [if_pos e2, if_pos e3]
        · refine zwp_to (x8_holds hC hL hE hI hi false) (fun p hp => ?_)
          rw [hp.2]
          refine zwp_if (fun e4 => ?_) (fun e4 => ?_)
          · rw [b2i_0] at e4
            refine hgo _ _ hp.1 ?_
            rw [if_neg ha]; unfold qwake1; rw [if_pos e2, if_neg e3, if_neg (by rw [e4]; decide)]
          · rw [b2i_0, Bool.not_eq_false] at e4
            rw [hp.1.2.2.2.1]
            refine zwp_to (x8_getUp hC hp.1 hi hup 6 _) (fun σ4 h4 => hgo _ _ h4 ?_)
            rw [if_neg ha]; unfold qwake1; rw [if_pos e2, if_neg e3, if_pos e4]
      · refine zwp_to (x8_getUp hC hI hi hup 4 _) (fun σ4 h4 => hgo _ _ h4 ?_)
        rw [if_neg ha]; unfold qwake1; rw [if_neg e2]
  · rintro f σ' ⟨hI, -⟩
    rw [k_X8_getUpBy_2, (hI.C hC).2.1, if_neg (nI_nlt (Nat.le_refl _) (by omega))]
    exact zwp_some.mpr hI
theorem qdraw_0 (x : Int32) : 0 ≤ (qdraw x).toInt := by
  unfold qdraw
  rw [pk_and _ 31 (by decide +kernel), nI_toInt (by omega)]
  omega
theorem rQ.draw {D : qD} {σ : zH} (h : rQ σ0 W s E D σ) (x : Int32) (hx : 0 ≤ x.toInt) : rQ σ0 W s E (dU D 7 1 x) (uI σ 8 s 2 x) := by
  obtain ⟨hz, hS, hO, hb, hT⟩ := h
  have hd : ∀ r i, r ≠ 7 → dU D 7 1 x r i = D r i := fun r i h => dU_ne D _ (fun q => h q.1)
  have hd0 : dU D 7 1 x 7 0 = D 7 0 := dU_ne D _ (by omega)
  have hd2 : dU D 7 1 x 7 2 = D 7 2 := dU_ne D _ (by omega)
  have hm : qmen E (dU D 7 1 x) = qmen E D := qsum_cong (fun i _ => by rw [hd 0 i (by omega)])
  have hk : qmask (qdown (dU D 7 1 x)) (qeN E) = qmask (qdown D) (qeN E) := qmask_cong (fun i _ => by unfold qdown; rw [hd 0 i (by omega)])
  refine ⟨hz.uI (Or.inl ⟨rfl, rfl⟩) _ _, ⟨?_, ?_, ?_, ?_, ?_, ?_, ?_, ?_⟩, ⟨fun i hi => ?_, ?_, ?_, hO.2.2.2⟩, ?_, ?_⟩
  · rw [hd0]; simpa [uI_1] using hS.1
  · rw [dU_eq]; simp [uI_1]
  · simpa [uI_1] using hS.2.2.1
  · rw [hk]; simpa [uI_1] using hS.2.2.2.1
  · rw [hm]; simpa [uI_1] using hS.2.2.2.2.1
  · rw [hd2]; simpa [uI_1] using hS.2.2.2.2.2.1
  · intro r i hr h1 h3 hi
    rw [hd r i (by omega), ← hS.2.2.2.2.2.2.1 r i hr h1 h3 hi]
    simp [uI_1, show 30 + r ≠ 8 by omega]
  · intro i hi
    rw [hd 3 i (by omega)]
    simpa [uI_1] using hS.2.2.2.2.2.2.2 i hi
  · rw [hd 0 i (by omega), hd 1 i (by omega), hd 2 i (by omega)]; exact hO.1 i hi
  · rw [dU_eq]; exact hx
  · rw [hd0]; exact hO.2.2.1
  · rw [hd0]; simpa [uI_1] using hb
  · intro j h1 h2
    rw [← hT j h1 h2]
    simp [uI_1, show j ≠ 2 by omega]
theorem x8_draw {D : qD} {σ : zH} (h : rQ σ0 W s E D σ) : zwp (d_X8_draw σ s) (fun p => rQ σ0 W s E (dU D 7 1 (qdraw (D 7 1))) p.1 ∧ p.2 = qdraw (D 7 1) / 65536) := by
  unfold d_X8_draw
  refine zwp_let.mpr (zwp_some.mpr ?_)
  rw [h.2.1.2.1]
  refine ⟨h.draw _ (qdraw_0 _), ?_⟩
  simp [uI_1]
  rfl
theorem x8_wakeNextTo (hC : rC σ0 (s + 1) E) {D : qD} {σ : zH} (h : rQ σ0 W s E D σ) {c : Nat} (hc : c < qeN E) :
    zwp (d_X8_wakeNextTo σ s (nI c)) (rQ σ0 W s E (if qnext E D c = -1 then D else qchg D ((c + (qnext E D c).toNatClampNeg) % qeN E) 0 7 (nI c))) := by
  have hn := hC.1
  have hC1 := h.C hC
  unfold d_X8_wakeNextTo
  unfold qnext
  generalize hp : (fun k => decide (0 < k) && qdown D ((c + k) % qeN E) && decide (qeR E 1 ((c + k) % qeN E) = qeR E 1 c)) = p
  rw [show k_X8_wakeNextTo_2 j_X8_wakeNextTo_74 zN σ s (nI c) (1 : Int32) = k_X8_wakeNextTo_2 j_X8_wakeNextTo_74 zN σ s (nI c) (nI 1) by rw [nI_one]]
  refine zwp_for (fun f i (_ : Unit) => k_X8_wakeNextTo_2 j_X8_wakeNextTo_74 f σ s (nI c) (nI i)) (fun i _ => 0 < i ∧ qany p i = false) _ 1 (qeN E) (by omega) (by omega) ?_ ?_ () ⟨by omega, by rw [← hp]; rfl⟩
  · rintro f i _ hi ⟨h0, hI⟩ IH
    have hlt : (c + i) % qeN E < qeN E := Nat.mod_lt _ (by omega)
    have hpi : 0 < i → p i = (qdown D ((c + i) % qeN E) && decide (qeR E 1 ((c + i) % qeN E) = qeR E 1 c)) := fun h0 => by rw [← hp]; simp [h0]
    have hin : (if nI c + nI i < σ.1 0 (s + 1) 0 then j_X8_wakeNextTo_41 (k_X8_wakeNextTo_2 j_X8_wakeNextTo_74 f) j_X8_wakeNextTo_74 σ s (nI c) (nI i) (nI c + nI i) else j_X8_wakeNextTo_41 (k_X8_wakeNextTo_2 j_X8_wakeNextTo_74 f) j_X8_wakeNextTo_74 σ s (nI c) (nI i) (nI c + nI i - σ.1 0 (s + 1) 0)) = j_X8_wakeNextTo_41 (k_X8_wakeNextTo_2 j_X8_wakeNextTo_74 f) j_X8_wakeNextTo_74 σ s (nI c) (nI i) (nI ((c + i) % qeN E)) := by
      rw [hC1.2.1, nI_add]
      by_cases hlt2 : c + i < qeN E
      · rw [if_pos (nI_lt hlt2 (by omega)), Nat.mod_eq_of_lt hlt2]
      · rw [if_neg (nI_nlt (by omega) (by omega)), pk_sub (by omega), Nat.mod_eq_sub_mod (by omega), Nat.mod_eq_of_lt (by omega)]
    rw [k_X8_wakeNextTo_2, hin, hC1.2.1, if_pos (nI_lt hi (by omega))]
    unfold j_X8_wakeNextTo_41
    rw [x8_asleep hC1 h.2.1 hlt]
    simp only [Option.bind_some]
    generalize hm : (c + i) % qeN E = m at *
    have hgo : p i = false → zwp (k_X8_wakeNextTo_2 j_X8_wakeNextTo_74 f σ s (nI c) (nI i + 1)) (rQ σ0 W s E (if qfst p (qeN E) = -1 then D else qchg D ((c + (qfst p (qeN E)).toNatClampNeg) % qeN E) 0 7 (nI c))) := fun h9 => by
      rw [nI_1]
      exact IH () ⟨by omega, by rw [qany, hI, h9]; rfl⟩
    refine zwp_if (fun e1 => hgo (by rw [b2i_0] at e1; rw [hpi h0, e1]; rfl)) (fun e1 => ?_)
    rw [b2i_0, Bool.not_eq_false] at e1
    rw [ix_nI (by omega) (by omega), ix_nI (by omega) (by omega)]
    simp only [Nat.add_zero]
    rw [hC1.2.2.1 1 m (by omega) hlt, hC1.2.2.1 1 c (by omega) hc]
    refine zwp_if (fun e2 => ?_) (fun e2 => hgo (by rw [hpi h0]; simp [e2]))
    have hf : qfst p (qeN E) = nI i := qfst_of hI (by rw [hpi h0, e1]; simp [e2]) hi
    rw [hf, if_neg (fun q => by
      have := congrArg Int32.toInt q
      rw [nI_toInt (by omega)] at this
      have h9 : (-1 : Int32).toInt = -1 := by decide
      omega), nI_clamp (by omega), hm]
    unfold j_X8_wakeNextTo_74
    refine zwp_to (x8_getUp hC h hlt (by unfold qdown at e1; simpa using e1) 7 (nI c)) (fun σ4 h4 => zwp_some.mpr h4)
  · rintro f _ ⟨-, hI⟩
    rw [k_X8_wakeNextTo_2, hC1.2.1, if_neg (nI_nlt (Nat.le_refl _) (by omega)), qfst_no hI, if_pos rfl]
    exact zwp_some.mpr h
theorem x8_snore (hC : rC σ0 (s + 1) E) {D : qD} {σ : zH} (h : rQ σ0 W s E (qq2 E D) σ) : zwp (d_X8_snore σ s) (rQ σ0 W s E (qq3 E D)) := by
  have hn := hC.1
  unfold d_X8_snore qq3
  rw [nI_c0]
  refine zwp_for (fun f i (σ' : zH) => k_X8_snore_2 f σ' s (nI i)) (fun i σ' => rQ σ0 W s E (qfor (qsnore1 E) i (qq2 E D)) σ') _ 0 (qeN E) (by omega) (by omega) ?_ ?_ σ h
  · intro f i σ' hi hI IH
    generalize hD : qfor (qsnore1 E) i (qq2 E D) = D' at hI
    have hgo : ∀ σ'', rQ σ0 W s E (qsnore1 E i D') σ'' → zwp (k_X8_snore_2 f σ'' s (nI i + 1)) (rQ σ0 W s E (qfor (qsnore1 E) (qeN E) (qq2 E D))) := fun σ'' h1 => by
      rw [nI_1]
      exact IH σ'' (by rw [qfor, hD]; exact h1)
    have hC1 := hI.C hC
    rw [k_X8_snore_2, hC1.2.1, if_pos (nI_lt hi (by omega)), x8_asleep hC1 hI.2.1 hi]
    simp only [Option.bind_some]
    refine zwp_if (fun e1 => ?_) (fun e1 => ?_)
    · rw [b2i_0] at e1
      have ha : D' 0 i = 0 := by unfold qdown at e1; simpa using e1
      exact hgo _ (by unfold qsnore1; rw [if_pos ha]; exact hI)
    · rw [b2i_0, Bool.not_eq_false] at e1
      have ha : ¬ D' 0 i = 0 := by unfold qdown at e1; simpa using e1
      refine zwp_to (x8_draw hI) (fun p hp => ?_)
      rw [hp.2, ix_nI (by omega) (by omega), Nat.add_zero]
      have hs := (hp.1.C hC).2.2.1 3 i (by omega) hi
      rw [hs]
      refine zwp_if (fun e2 => ?_) (fun e2 => ?_)
      · refine zwp_to (x8_wakeNextTo hC hp.1 hi) (fun σ4 h4 => hgo _ ?_)
        unfold qsnore1
        rw [if_neg ha]
        dsimp only
        rw [if_pos e2]
        have hx : qnext E (dU D' 7 1 (qdraw (D' 7 1))) i = qnext E D' i := by
          unfold qnext qdown
          rfl
        rw [hx] at h4
        exact h4
      · refine hgo _ ?_
        unfold qsnore1
        rw [if_neg ha]
        dsimp only
        rw [if_neg e2]
        exact hp.1
  · intro f σ' hI
    rw [k_X8_snore_2, (hI.C hC).2.1, if_neg (nI_nlt (Nat.le_refl _) (by omega))]
    exact zwp_some.mpr hI
end
