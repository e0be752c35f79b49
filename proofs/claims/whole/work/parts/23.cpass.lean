/-! THE CLASS: quarters; copies; the drum -/
theorem qwake1_7 (E : qE) (c : Nat) (D : qD) (i : Nat) : qwake1 E c D 7 i = D 7 i := by
  unfold qwake1
  split
  · split
    · exact qchg_7 _
    · split
      · exact qchg_7 _
      · rfl
  · exact qchg_7 _
theorem qsnore1_70 (E : qE) (c : Nat) (D : qD) : qsnore1 E c D 7 0 = D 7 0 := by
  unfold qsnore1
  dsimp only
  split
  · rfl
  · split
    · split
      · exact dU_ne _ _ (by omega)
      · rw [qchg_7]; exact dU_ne _ _ (by omega)
    · exact dU_ne _ _ (by omega)
theorem qfor_70 {f : Nat → qD → qD} (h : ∀ c D, f c D 7 0 = D 7 0) (D : qD) : ∀ n, qfor f n D 7 0 = D 7 0
  | 0 => by rw [qfor_0]
  | n + 1 => by rw [qfor, h, qfor_70 h D n]
theorem qq1_70 (E : qE) (D : qD) : qq1 E D 7 0 = D 7 0 := qfor_70 (qlie1_70 E) D _
theorem qq2_70 (E : qE) (D : qD) : qq2 E D 7 0 = D 7 0 := by
  unfold qq2
  rw [qfor_70 (fun c D' => ?_), qq1_70]
  split
  · rfl
  · exact qwake1_7 E c D' 0
theorem qq3_70 (E : qE) (D : qD) : qq3 E D 7 0 = D 7 0 := by
  unfold qq3
  rw [qfor_70 (qsnore1_70 E), qq2_70]
theorem qq4_70 (E : qE) (D : qD) : qq4 E D 7 0 = D 7 0 := by
  unfold qq4
  rw [qfor_70 (fun c D => qtire1_ne (by omega)), qq3_70]
theorem qqu_70 (E : qE) (D : qD) : qqu E D 7 0 = D 7 0 + 1 := by
  unfold qqu
  rw [dU_eq, qq4_70]
theorem qqu_ne (E : qE) (D : qD) {r i : Nat} (h : ¬ (r = 7 ∧ i = 0)) : qqu E D r i = qq4 E D r i := by
  unfold qqu
  rw [dU_ne _ _ h]
theorem qqu_men (E : qE) (D : qD) : qmen E (qqu E D) = qmen E (qq4 E D) := qsum_cong (fun i _ => by rw [qqu_ne E D (by omega)])
theorem qOK.quarter {E : qE} {D : qD} (h : qOK E (qq4 E D)) (hn : (D 7 0).toInt ≤ 20000) : qOK E (qqu E D) := by
  refine ⟨fun i hi => ?_, by rw [qqu_ne _ _ (by omega)]; exact h.2.1, ?_, h.2.2.2⟩
  · rw [qqu_ne _ _ (by omega), qqu_ne _ _ (by omega), qqu_ne _ _ (by omega)]; exact h.1 i hi
  · have h0 := h.2.2.1
    rw [qq4_70] at h0
    rw [qqu_70, fb_addI (by rw [i32_1]; omega) (by rw [i32_1]; omega), i32_1]
    omega
section
variable {W : Int32} {s l : Nat} {E : qE} {cl : List (Bool × List qop)}
theorem x8_quarter (hE : qeL E = qlaw cl) {D : qD} {σ : zH} (hC : rC σ (s + 1) E) (hL : rL σ l cl) (hS : rS W σ s E D) (hO : qOK E D) (hn : (D 7 0).toInt ≤ 20000) :
    zwp ((d_X0_firstBell σ (s + 1) ((σ.1 8 s 1) - (σ.1 8 s 1) / (96 : Int32) * (96 : Int32))).bind fun p1 =>
      zlet (uI p1.1 8 s 16 p1.2) fun σ2 =>
      (d_X8_lieDownBy σ2 s l).bind fun σ3 =>
      (d_X8_getUpBy σ3 s l (σ.1 8 s 4)).bind fun σ4 =>
      (d_X8_snore σ4 s).bind fun σ5 =>
      (d_X8_tire σ5 s).bind fun σ6 => some (uI σ6 8 s 1 ((σ6.1 8 s 1) + (1 : Int32))))
      (fun σ' => zsm (F8 s) σ σ' ∧ rS W σ' s E (qqu E D) ∧ qOK E (qqu E D) ∧ cst σ' s = qst (σ.1 0 (s + 1) 12) (qmen E (qqu E D)) (D 7 0) (cst σ s)) := by
  obtain ⟨b, hb8, hb5, hbB, -⟩ := hC.2.2.2.1
  rw [x0_firstBell hb5 hb8, ← hbB, hS.1]
  simp only [Option.bind_some]
  refine zwp_let.mpr ?_
  have h0 : rQ (uI σ 8 s 16 (qeB E (qrem (D 7 0)))) W s E D (uI σ 8 s 16 (qeB E (qrem (D 7 0)))) := by
    obtain ⟨a1, a2, a3, a4, a5, a6, a7, a8⟩ := hS
    refine ⟨zsm.rf, ⟨?_, ?_, ?_, ?_, ?_, ?_, ?_, ?_⟩, hO, ?_, fun _ _ _ => rfl⟩
    · simpa [uI_1] using a1
    · simpa [uI_1] using a2
    · simpa [uI_1] using a3
    · simpa [uI_1] using a4
    · simpa [uI_1] using a5
    · simpa [uI_1] using a6
    · intro r i hr h1 h3 hi
      rw [← a7 r i hr h1 h3 hi]
      simp [uI_1, show 30 + r ≠ 8 by omega]
    · intro i hi
      simpa [uI_1] using a8 i hi
    · simp [uI_1]
  have hz0 : zsm (F8 s) σ (uI σ 8 s 16 (qeB E (qrem (D 7 0)))) := zsm.rf.uI (Or.inl ⟨rfl, rfl⟩) _ _
  have hC0 : rC (uI σ 8 s 16 (qeB E (qrem (D 7 0)))) (s + 1) E := hC.mv (fun k hk => (hz0 k (s + 1) (by unfold F8; omega)).1)
  have hL0 : rL (uI σ 8 s 16 (qeB E (qrem (D 7 0)))) l cl := hL.mv (fun k hk => (hz0 k l (by unfold F8; omega)).1)
  have hw0 : (uI σ 8 s 16 (qeB E (qrem (D 7 0)))).1 0 (s + 1) 12 = σ.1 0 (s + 1) 12 := by simp [uI_1]
  have hc0 : cst (uI σ 8 s 16 (qeB E (qrem (D 7 0)))) s = cst σ s := by unfold cst; simp [uI_1]
  have h4 := hS.2.2.2.1
  refine zwp_to (x8_lieDownBy hC0 hL0 hE h0) (fun σ3 h3 => ?_)
  rw [h4]
  refine zwp_to (x8_getUpBy hC0 hL0 hE h3) (fun σ4 h4 => ?_)
  refine zwp_to (x8_snore hC0 h4) (fun σ5 h5 => ?_)
  refine zwp_to (x8_tire hC0 h5) (fun σ6 h6 => zwp_some.mpr ?_)
  obtain ⟨g1, g2, g3, g4⟩ := h6
  refine ⟨hz0.tr (g1.uI (Or.inl ⟨rfl, rfl⟩) _ _), ?_, g3.quarter hn, ?_⟩
  · obtain ⟨a1, a2, a3, a4, a5, a6, a7, a8⟩ := g2
    have hk : qmask (qdown (qqu E D)) (qeN E) = qmask (qdown (qq4 E D)) (qeN E) := qmask_cong (fun i _ => by unfold qdown; rw [qqu_ne _ _ (by omega)])
    refine ⟨?_, ?_, ?_, ?_, ?_, ?_, ?_, ?_⟩
    · rw [qqu_70]
      rw [qq4_70] at a1
      simp [uI_1, a1]
    · rw [qqu_ne _ _ (by omega)]; simpa [uI_1] using a2
    · simpa [uI_1] using a3
    · rw [hk]; simpa [uI_1] using a4
    · rw [qqu_men]; simpa [uI_1] using a5
    · rw [qqu_ne _ _ (by omega)]; simpa [uI_1] using a6
    · intro r i hr h1 h3 hi
      rw [qqu_ne _ _ (by omega), ← a7 r i hr h1 h3 hi]
      simp [uI_1, show 30 + r ≠ 8 by omega]
    · intro i hi
      rw [qqu_ne _ _ (by omega)]
      simpa [uI_1] using a8 i hi
  · rw [qq4_70, hw0, hc0] at g4
    rw [qqu_men, ← g4]
    unfold cst
    simp [uI_1]
theorem qrun_70 (E : qE) (D : qD) : ∀ n, n ≤ 20000 → (0 ≤ (D 7 0).toInt ∧ (D 7 0).toInt ≤ 20000) → (qrun E n D 7 0).toInt = (D 7 0).toInt + n
  | 0, _, _ => by rw [qrun]; simp
  | n + 1, hn, h => by
    have ih := qrun_70 E D n (by omega) h
    rw [qrun, qqu_70, fb_addI (by rw [i32_1]; omega) (by rw [i32_1]; omega), i32_1, ih]
    omega
theorem x8_passQuarters (hE : qeL E = qlaw cl) {D : qD} {σ : zH} (hC : rC σ (s + 1) E) (hL : rL σ l cl) (hS : rS W σ s E D) (hO : qOK E D) (n : Nat) (hn : n ≤ 3000) (hd : (D 7 0).toInt + n ≤ 20000) :
    zwp (d_X8_passQuarters σ s l (nI n)) (fun σ' => zsm (F8 s) σ σ' ∧ rS W σ' s E (qrun E n D) ∧ qOK E (qrun E n D) ∧ cst σ' s = qstn E (σ.1 0 (s + 1) 12) n D (cst σ s)) := by
  have h00 := hO.2.2.1
  unfold d_X8_passQuarters
  rw [nI_c0]
  refine zwp_for (fun f i (σ' : zH) => k_X8_passQuarters_2 f σ' s l (nI n) (nI i)) (fun i σ' => zsm (F8 s) σ σ' ∧ rS W σ' s E (qrun E i D) ∧ qOK E (qrun E i D) ∧ cst σ' s = qstn E (σ.1 0 (s + 1) 12) i D (cst σ s)) _ 0 n (by omega) (by omega) ?_ ?_ σ ⟨zsm.rf, by rw [qrun]; exact hS, by rw [qrun]; exact hO, by rw [qstn]⟩
  · rintro f i σ' hi ⟨h1, h2, h3, h4⟩ IH
    have ht := qrun_70 E D i (by omega) (by omega)
    have hC1 : rC σ' (s + 1) E := hC.mv (fun k hk => (h1 k (s + 1) (by unfold F8; omega)).1)
    have hL1 : rL σ' l cl := hL.mv (fun k hk => (h1 k l (by unfold F8; omega)).1)
    have hw : σ'.1 0 (s + 1) 12 = σ.1 0 (s + 1) 12 := by rw [(h1 0 (s + 1) (by unfold F8; omega)).1]
    have hq := x8_quarter hE hC1 hL1 h2 h3 (by omega)
    rw [k_X8_passQuarters_2, if_pos (nI_lt hi (by omega)), nI_1]
    obtain ⟨σ6, he, hp⟩ := hq
    have hgo : zwp (some σ6 |>.bind fun σ7 => k_X8_passQuarters_2 f σ7 s l (nI n) (nI (i + 1))) _ := zwp_bind.mpr (zwp_some.mpr (IH σ6 ⟨h1.tr hp.1, by rw [qrun]; exact hp.2.1, by rw [qrun]; exact hp.2.2.1, by rw [qstn, hp.2.2.2, h4, hw, qrun]⟩))
    rw [← he] at hgo
    simp only [Option.bind_assoc, Option.bind_some, zlet] at hgo ⊢
    exact hgo
  · rintro f σ' h
    rw [k_X8_passQuarters_2, if_neg (nI_nlt (Nat.le_refl _) (by omega))]
    exact zwp_some.mpr h
end
