/-! THE CLASS: a quarter -/
theorem qlie1_70 (E : qE) (c : Nat) (D : qD) : qlie1 E c D 7 0 = D 7 0 := by
  unfold qlie1
  split
  · rw [qchg_7, dU_ne _ _ (by omega)]
  · rfl
theorem qlie1_fe {E : qE} (c : Nat) {D : qD} (e : D 7 0 < qeF E) : qlie1 E c D = D := by
  unfold qlie1
  rw [if_neg (fun q => q.2.2.1 e)]
theorem rQ.mv2 {σ0 : zH} {W : Int32} {s : Nat} {E : qE} {D : qD} {σ σ' : zH} (h : rQ σ0 W s E D σ) (e1 : σ'.1 = σ.1) (e2 : ∀ k i, k ≠ 28 → σ'.2 k i = σ.2 k i) : rQ σ0 W s E D σ' := by
  obtain ⟨hz, hS, hO, hb, hT⟩ := h
  refine ⟨fun k i hf => ⟨by rw [e1]; exact (hz k i hf).1, ?_⟩, hS.mv1 e1, hO, by rw [e1]; exact hb, by rw [e1]; exact hT⟩
  rw [e2 k i (fun q => hf (Or.inr (Or.inr q)))]
  exact (hz k i hf).2
theorem rQ.warm {σ0 : zH} {W : Int32} {s : Nat} {E : qE} {D : qD} {σ : zH} (h : rQ σ0 W s E D σ) (x : Int32) : rQ σ0 W s E (dU D 7 2 (D 7 2 + x)) (uI σ 8 s 15 (σ.1 8 s 15 + x)) := by
  obtain ⟨hz, hS, hO, hb, hT⟩ := h
  have hd : ∀ r i, r ≠ 7 → dU D 7 2 (D 7 2 + x) r i = D r i := fun r i h => dU_ne D _ (fun q => h q.1)
  have hd0 : dU D 7 2 (D 7 2 + x) 7 0 = D 7 0 := dU_ne D _ (by omega)
  have hd1 : dU D 7 2 (D 7 2 + x) 7 1 = D 7 1 := dU_ne D _ (by omega)
  have hm : qmen E (dU D 7 2 (D 7 2 + x)) = qmen E D := qsum_cong (fun i _ => by rw [hd 0 i (by omega)])
  have hk : qmask (qdown (dU D 7 2 (D 7 2 + x))) (qeN E) = qmask (qdown D) (qeN E) := qmask_cong (fun i _ => by unfold qdown; rw [hd 0 i (by omega)])
  refine ⟨hz.uI (Or.inl ⟨rfl, rfl⟩) _ _, ⟨?_, ?_, ?_, ?_, ?_, ?_, ?_, ?_⟩, ⟨fun i hi => ?_, ?_, ?_, hO.2.2.2⟩, ?_, ?_⟩
  · rw [hd0]; simpa [uI_1] using hS.1
  · rw [hd1]; simpa [uI_1] using hS.2.1
  · simpa [uI_1] using hS.2.2.1
  · rw [hk]; simpa [uI_1] using hS.2.2.2.1
  · rw [hm]; simpa [uI_1] using hS.2.2.2.2.1
  · rw [dU_eq]
    simp only [uI_1]
    simp
    rw [hS.2.2.2.2.2.1, Int32.add_assoc]
  · intro r i hr h1 h3 hi
    rw [hd r i (by omega), ← hS.2.2.2.2.2.2.1 r i hr h1 h3 hi]
    simp [uI_1, show 30 + r ≠ 8 by omega]
  · intro i hi
    rw [hd 3 i (by omega)]
    simpa [uI_1] using hS.2.2.2.2.2.2.2 i hi
  · rw [hd 0 i (by omega), hd 1 i (by omega), hd 2 i (by omega)]; exact hO.1 i hi
  · rw [hd1]; exact hO.2.1
  · rw [hd0]; exact hO.2.2.1
  · rw [hd0]; simpa [uI_1] using hb
  · intro j h1 h2
    rw [← hT j h1 h2]
    simp [uI_1, show j ≠ 15 by omega]
theorem rQ.L {σ0 : zH} {W : Int32} {s l : Nat} {E : qE} {D : qD} {σ : zH} {cl : List (Bool × List qop)} (h : rQ σ0 W s E D σ) (hL : rL σ0 l cl) : rL σ l cl :=
  hL.mv (fun k hk => (h.1 k l (by unfold F8; omega)).1)
section
variable {σ0 : zH} {W : Int32} {s l : Nat} {E : qE} {cl : List (Bool × List qop)}
theorem x8_holds (hC : rC σ0 (s + 1) E) (hL : rL σ0 l cl) (hE : qeL E = qlaw cl) {D : qD} {σ : zH} (h : rQ σ0 W s E D σ) {c : Nat} (hc : c < qeN E) (sl : Bool) :
    zwp (d_X4_holds σ l (b2i sl) s (nI c)) (fun p => rQ σ0 W s E D p.1 ∧ p.2 = b2i (qeL E sl (qval E D c))) := by
  refine zwp_mono (x4_holds (qval E D c) (fun σ' e w hw => x8_valueOf ((h.C hC).mv1 e) (h.2.1.mv1 e) (by rw [e]; exact h.2.2.2.1) hc w hw) (h.L hL) sl) (fun p hp => ?_)
  exact ⟨h.mv2 hp.1 hp.2.1, by rw [hE]; exact hp.2.2⟩
theorem x8_firstDuty (hC : rC σ0 (s + 1) E) {D : qD} {σ : zH} (h : rQ σ0 W s E D σ) (c : Nat) : d_X0_firstDuty σ (s + 1) (nI c) (σ.1 8 s 1 - σ.1 8 s 1 / 96 * 96) = some (σ, qeU E c (qrem (D 7 0))) := by
  obtain ⟨d, h8, hd, hu⟩ := (h.C hC).2.2.2.2
  rw [x0_firstDuty hd h8, hu, h.2.1.1]
  rfl
theorem x8_lieDownBy (hC : rC σ0 (s + 1) E) (hL : rL σ0 l cl) (hE : qeL E = qlaw cl) {D : qD} {σ : zH} (h : rQ σ0 W s E D σ) : zwp (d_X8_lieDownBy σ s l) (rQ σ0 W s E (qq1 E D)) := by
  have h7 : ∀ i, qfor (qlie1 E) i D 7 0 = D 7 0 := fun i => by
    induction i with
    | zero => rfl
    | succ i ih =>
      rw [qfor, qlie1_70, ih]
  unfold d_X8_lieDownBy qq1
  rw [h.2.1.1, h.2.1.2.2.1]
  refine zwp_if (fun e => ?_) (fun e => ?_)
  · have hno : ∀ i, qfor (qlie1 E) i D = D := fun i => by
      induction i with
      | zero => rfl
      | succ i ih =>
        rw [qfor, ih, qlie1_fe _ e]
    rw [hno]
    exact zwp_some.mpr h
  · rw [nI_c0]
    refine zwp_for (fun f i (σ' : zH) => k_X8_lieDownBy_14 f σ' s l (nI i)) (fun i σ' => rQ σ0 W s E (qfor (qlie1 E) i D) σ') _ 0 (qeN E) (by have := hC.1; omega) (by omega) ?_ ?_ σ h
    · intro f i σ' hi hI IH
      have hn := hC.1
      have hd7 := h7 i
      generalize hD : qfor (qlie1 E) i D = D' at hI hd7
      have hgo : ∀ σ'', rQ σ0 W s E D' σ'' → qlie1 E i D' = D' → zwp (k_X8_lieDownBy_14 f σ'' s l (nI i + 1)) (rQ σ0 W s E (qfor (qlie1 E) (qeN E) D)) := fun σ'' h1 h2 => by
        rw [nI_1]
        exact IH σ'' (by rw [qfor, hD, h2]; exact h1)
      have hC1 := hI.C hC
      rw [k_X8_lieDownBy_14, hC1.2.1, if_pos (nI_lt hi (by omega)), x8_asleep hC1 hI.2.1 hi]
      simp only [Option.bind_some]
      refine zwp_if (fun e1 => ?_) (fun e1 => ?_)
      · rw [x8_bedIsTaken hC1 hI.2.1 hi]
        simp only [Option.bind_some]
        rw [b2i_0] at e1
        have ha : D' 0 i = 0 := by unfold qdown at e1; simpa using e1
        refine zwp_if (fun e2 => ?_) (fun e2 => ?_)
        · rw [b2i_0] at e2
          rw [x8_firstDuty hC hI]
          simp only [Option.bind_some]
          refine zwp_if (fun e3 => ?_) (fun e3 => hgo _ hI (by unfold qlie1; rw [if_neg (fun q => e3 q.2.1)]))
          refine zwp_to (x8_holds hC hL hE hI hi true) (fun p hp => ?_)
          rw [hp.2]
          refine zwp_if (fun e4 => ?_) (fun e4 => ?_)
          · rw [b2i_0] at e4
            exact hgo _ hp.1 (by unfold qlie1; rw [if_neg (fun q => by rw [q.2.2.2.2] at e4; cases e4)])
          · rw [b2i_0, Bool.not_eq_false] at e4
            have hq := hp.1
            rw [x8_bedIsWarm (hq.C hC) hq.2.1 hq.2.2.1.2.2.1 hi]
            simp only [Option.bind_some]
            have hl1 : qlie1 E i D' = qchg (dU D' 7 2 (D' 7 2 + (if qwarm E D' i then qeR E 0 i else 0))) i 1 3 (qeB E (qrem (D' 7 0))) := by
              unfold qlie1
              rw [if_pos ⟨ha, e3, by rw [hd7]; exact e, e2, e4⟩]
            have hfin : ∀ x, x = (if qwarm E D' i then qeR E 0 i else 0) → zwp (j_X8_lieDownBy_99 (k_X8_lieDownBy_14 f) p.1 s l (nI i) s (p.1.1 8 s 15) x) (rQ σ0 W s E (qfor (qlie1 E) (qeN E) D)) := fun x hx => by
              unfold j_X8_lieDownBy_99
              refine zwp_let.mpr ?_
              have hw := hq.warm x
              refine zwp_to (x8_lieDown hC hw hi (by rw [dU_ne _ _ (by omega)]; exact ha) 3 _) (fun σ3 h3 => ?_)
              rw [nI_1]
              refine IH σ3 ?_
              rw [qfor, hD, hl1, ← hx]
              have h16 := hw.2.2.2.1
              rw [dU_ne D' _ (show ¬ (7 = 7 ∧ 0 = 2) by omega)] at h16
              rw [h16] at h3
              exact h3
            refine zwp_if (fun e5 => ?_) (fun e5 => ?_)
            · rw [b2i_0] at e5
              exact hfin 0 (by rw [e5]; rfl)
            · rw [b2i_0, Bool.not_eq_false] at e5
              rw [ix_nI (by omega) (by omega), Nat.add_zero]
              exact hfin _ (by rw [e5, if_pos rfl]; exact (hq.C hC).2.2.1 0 i (by omega) hi)
        · rw [b2i_0, Bool.not_eq_false] at e2
          exact hgo _ hI (by unfold qlie1; rw [if_neg (fun q => by rw [q.2.2.2.1] at e2; cases e2)])
      · rw [b2i_0, Bool.not_eq_false] at e1
        have ha : ¬ D' 0 i = 0 := by unfold qdown at e1; simpa using e1
        exact hgo _ hI (by unfold qlie1; rw [if_neg (fun q => ha q.1)])
    · intro f σ' hI
      have hn := hC.1
      rw [k_X8_lieDownBy_14, (hI.C hC).2.1, if_neg (nI_nlt (Nat.le_refl _) (by omega))]
      exact zwp_some.mpr hI
end
