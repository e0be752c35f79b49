/-! THE REFERENCE: bells, duties, beds -/
section
variable {W w : Int32} {σ : zH} {E : qE} {D : qD}
theorem x11_dutyNow (hC : rMC σ w E) (hS : rMS W σ E D) (c : Nat) : d_X11_dutyNow σ (nI c) = some (σ, qeU E c (qrem (D 7 0))) := by
  obtain ⟨d, hd, h2, hu⟩ := hC.2.2.2.2.1
  rw [hu, ← zwp_eq]
  generalize hp : (fun i => decide (σ.1 49 0 i = nI c) && !decide (qrem (D 7 0) < σ.1 50 0 i) && !decide (σ.1 51 0 i < qrem (D 7 0))) = p
  have hpi : ∀ i, p i = (decide (σ.1 49 0 i = nI c) && !decide (qrem (D 7 0) < σ.1 50 0 i) && !decide (σ.1 51 0 i < qrem (D 7 0))) := fun i => by rw [← hp]
  unfold d_X11_dutyNow
  rw [nI_c0]
  refine zwp_for (fun f i (_ : Unit) => k_X11_dutyNow_2 f σ (nI c) (nI i)) (fun i _ => qany p i = false) _ 0 d (by omega) (by omega) ?_ ?_ () rfl
  · intro f i _ hi hI IH
    have hgo : p i = false → zwp (k_X11_dutyNow_2 f σ (nI c) (nI i + 1)) (fun a => a = (σ, qfst p d)) := fun h => by
      rw [nI_1]
      exact IH () (by rw [qany, hI, h]; rfl)
    rw [k_X11_dutyNow_2, h2, if_pos (nI_lt hi (by omega)), now_eq hS]
    simp only [ix_nI (show i < 8 by omega) (show 8 < 2 ^ 31 by omega)]
    refine zwp_if (fun e2 => ?_) (fun e2 => hgo (by rw [hpi, decide_eq_false e2]; rfl))
    rw [in_32]
    simp only [Option.bind_some]
    have hq : p i = (!decide (qrem (D 7 0) < σ.1 50 0 i) && !decide (σ.1 51 0 i < qrem (D 7 0))) := by rw [hpi, decide_eq_true e2]; simp
    rw [← hq]
    refine zwp_if (fun e3 => ?_) (fun e3 => ?_)
    · rw [b2i_0] at e3
      exact hgo e3
    · rw [b2i_0, Bool.not_eq_false] at e3
      exact zwp_some.mpr (by rw [qfst_of hI e3 hi])
  · intro f _ hI
    rw [k_X11_dutyNow_2, h2, if_neg (nI_nlt (Nat.le_refl _) (by omega))]
    exact zwp_some.mpr (by rw [qfst_no hI])
theorem x11_bellNow (hC : rMC σ w E) (hS : rMS W σ E D) : d_X11_bellNow σ = some (σ, qeB E (qrem (D 7 0))) := by
  obtain ⟨b, hb, h2, hu, -⟩ := hC.2.2.2.1
  have hw := hC.2.2.2.2.2.2
  rw [hu, ← zwp_eq]
  generalize hp : (fun i => !decide (nI i = w) && decide (σ.1 47 0 i = qrem (D 7 0))) = p
  have hpi : ∀ i, p i = (!decide (nI i = w) && decide (σ.1 47 0 i = qrem (D 7 0))) := fun i => by rw [← hp]
  unfold d_X11_bellNow
  rw [nI_c0]
  refine zwp_for (fun f i (_ : Unit) => k_X11_bellNow_2 f σ (nI i)) (fun i _ => qany p i = false) _ 0 b (by omega) (by omega) ?_ ?_ () rfl
  · intro f i _ hi hI IH
    have hgo : p i = false → zwp (k_X11_bellNow_2 f σ (nI i + 1)) (fun a => a = (σ, qfst p b)) := fun h => by
      rw [nI_1]
      exact IH () (by rw [qany, hI, h]; rfl)
    rw [k_X11_bellNow_2, h2, if_pos (nI_lt hi (by omega)), now_eq hS, hw]
    simp only [ix_nI (show i < 8 by omega) (show 8 < 2 ^ 31 by omega)]
    refine zwp_if (fun e1 => hgo (by rw [hpi]; simp [e1])) (fun e1 => ?_)
    refine zwp_if (fun e2 => ?_) (fun e2 => hgo (by rw [hpi]; simp [e2]))
    exact zwp_some.mpr (by rw [qfst_of hI (by rw [hpi]; simp [e1, e2]) hi])
  · intro f _ hI
    rw [k_X11_bellNow_2, h2, if_neg (nI_nlt (Nat.le_refl _) (by omega))]
    exact zwp_some.mpr (by rw [qfst_no hI])
theorem x11_toneNow (hC : rMC σ w E) (hS : rMS W σ E D) : d_X11_toneNow σ = some (σ, qeT E (qrem (D 7 0))) := by
  obtain ⟨b, hb, h2, hu, ht⟩ := hC.2.2.2.1
  have hw := hC.2.2.2.2.2.2
  rw [ht, hu, ← zwp_eq]
  generalize hp : (fun i => !decide (nI i = w) && decide (σ.1 47 0 i = qrem (D 7 0))) = p
  have hpi : ∀ i, p i = (!decide (nI i = w) && decide (σ.1 47 0 i = qrem (D 7 0))) := fun i => by rw [← hp]
  unfold d_X11_toneNow
  rw [nI_c0]
  refine zwp_for (fun f i (_ : Unit) => k_X11_toneNow_2 f σ (nI i)) (fun i _ => qany p i = false) _ 0 b (by omega) (by omega) ?_ ?_ () rfl
  · intro f i _ hi hI IH
    have hgo : p i = false → zwp (k_X11_toneNow_2 f σ (nI i + 1)) (fun a => a = (σ, if qfst p b = -1 then nI 0 else σ.1 48 0 (qfst p b).toNatClampNeg)) := fun h => by
      rw [nI_1]
      exact IH () (by rw [qany, hI, h]; rfl)
    rw [k_X11_toneNow_2, h2, if_pos (nI_lt hi (by omega)), now_eq hS, hw]
    simp only [ix_nI (show i < 8 by omega) (show 8 < 2 ^ 31 by omega)]
    refine zwp_if (fun e1 => hgo (by rw [hpi]; simp [e1])) (fun e1 => ?_)
    refine zwp_if (fun e2 => ?_) (fun e2 => hgo (by rw [hpi]; simp [e2]))
    refine zwp_some.mpr ?_
    rw [qfst_of hI (by rw [hpi]; simp [e1, e2]) hi, if_neg (fun h => by
      have := congrArg Int32.toInt h
      rw [nI_toInt (by omega), i32_m1] at this
      omega), nI_clamp (by omega)]
  · intro f _ hI
    rw [k_X11_toneNow_2, h2, if_neg (nI_nlt (Nat.le_refl _) (by omega))]
    exact zwp_some.mpr (by rw [qfst_no hI, if_pos rfl, nI_0])
theorem x11_isFeast (hC : rMC σ w E) (hS : rMS W σ E D) : d_X11_isFeast σ = some (σ, b2i (decide (D 7 0 < qeF E))) := by
  unfold d_X11_isFeast
  rw [hS.1, hC.2.2.2.2.2.1]
  by_cases h : D 7 0 < qeF E
  · rw [if_pos h, decide_eq_true h]; rfl
  · rw [if_neg h, decide_eq_false h]; rfl
theorem x11_isFree (hC : rMC σ w E) (hS : rMS W σ E D) {c : Nat} (hc : c < qeN E) : d_X11_isFree σ (nI c) = some (σ, b2i (!qtaken E D c)) := by
  have hn := hC.1
  unfold qtaken
  generalize hp : (fun o => decide (o ≠ c) && qdown D o && decide (qeR E 2 o = qeR E 2 c)) = p
  have hpi : ∀ i, p i = (decide (i ≠ c) && qdown D i && decide (qeR E 2 i = qeR E 2 c)) := fun i => by rw [← hp]
  rw [← zwp_eq]
  unfold d_X11_isFree
  rw [show k_X11_isFree_4 zN σ (nI c) (1 : Int32) (0 : Int32) = k_X11_isFree_4 zN σ (nI c) (1 : Int32) (nI 0) by rw [nI_0]]
  refine zwp_for (fun f i (a : Int32) => k_X11_isFree_4 f σ (nI c) a (nI i)) (fun i a => a = b2i (!qany p i)) _ 0 (qeN E) (by omega) (by omega) ?_ ?_ _ rfl
  · rintro f i _ hi rfl IH
    have hgo : ∀ x, x = b2i (!qany p (i + 1)) → zwp (k_X11_isFree_4 f σ (nI c) x (nI i + 1)) (fun a => a = (σ, b2i (!qany p (qeN E)))) := fun x hx => by
      rw [nI_1]; exact IH _ hx
    rw [k_X11_isFree_4, hC.2.1, if_pos (nI_lt hi (by omega))]
    simp only [ix_nI (show i < 12 by omega) (show 12 < 2 ^ 31 by omega), ix_nI (show c < 12 by omega) (show 12 < 2 ^ 31 by omega)]
    rw [show σ.1 45 0 i = qeR E 2 i from hC.2.2.1 2 i (by omega) hi, show σ.1 45 0 c = qeR E 2 c from hC.2.2.1 2 c (by omega) hc, show σ.1 62 0 i = D 0 i from hS.2.2.2 0 i (by omega) hi]
    unfold j_X11_isFree_51 j_X11_isFree_47 j_X11_isFree_52
    refine zwp_if (fun e1 => ?_) (fun e1 => ?_)
    · rw [b2i_0, Bool.not_eq_false'] at e1
      exact hgo _ (by rw [qany, e1]; rfl)
    · rw [b2i_0, Bool.not_eq_false, Bool.not_eq_true'] at e1
      refine zwp_if (fun e2 => ?_) (fun e2 => ?_)
      · rw [nI_eq (by omega) (by omega)] at e2
        exact hgo _ (by rw [qany, e1, hpi]; simp [e2]; rfl)
      · rw [nI_eq (by omega) (by omega)] at e2
        refine zwp_if (fun e3 => ?_) (fun e3 => ?_)
        · refine zwp_if (fun e4 => ?_) (fun e4 => ?_)
          · exact hgo _ (by rw [qany, e1, hpi]; simp [qdown, e4]; rfl)
          · exact hgo _ (by rw [qany, e1, hpi]; simp [qdown, e2, e3, e4]; rfl)
        · exact hgo _ (by rw [qany, e1, hpi]; simp [e3]; rfl)
  · rintro f _ rfl
    rw [k_X11_isFree_4, hC.2.1, if_neg (nI_nlt (Nat.le_refl _) (by omega)), tv_01 (b2i_01 _)]
    exact zwp_some.mpr rfl
theorem x11_isWarm (hC : rMC σ w E) (hS : rMS W σ E D) {c : Nat} (hc : c < qeN E) : d_X11_isWarm σ (nI c) = some (σ, b2i (qwarm E D c)) := by
  have hn := hC.1
  unfold qwarm
  generalize hp : (fun o => decide (o ≠ c) && decide (qeR E 2 o = qeR E 2 c) && decide (D 7 0 - 4 < D 3 o)) = p
  have hpi : ∀ i, p i = (decide (i ≠ c) && decide (qeR E 2 i = qeR E 2 c) && decide (D 7 0 - 4 < D 3 i)) := fun i => by rw [← hp]
  rw [← zwp_eq]
  unfold d_X11_isWarm
  rw [show k_X11_isWarm_4 zN σ (nI c) (0 : Int32) (0 : Int32) = k_X11_isWarm_4 zN σ (nI c) (0 : Int32) (nI 0) by rw [nI_0]]
  refine zwp_for (fun f i (a : Int32) => k_X11_isWarm_4 f σ (nI c) a (nI i)) (fun i a => a = b2i (qany p i)) _ 0 (qeN E) (by omega) (by omega) ?_ ?_ _ rfl
  · rintro f i _ hi rfl IH
    have hgo : ∀ x, x = b2i (qany p (i + 1)) → zwp (k_X11_isWarm_4 f σ (nI c) x (nI i + 1)) (fun a => a = (σ, b2i (qany p (qeN E)))) := fun x hx => by
      rw [nI_1]; exact IH _ hx
    rw [k_X11_isWarm_4, hC.2.1, if_pos (nI_lt hi (by omega)), hS.1]
    simp only [ix_nI (show i < 12 by omega) (show 12 < 2 ^ 31 by omega), ix_nI (show c < 12 by omega) (show 12 < 2 ^ 31 by omega)]
    rw [show σ.1 45 0 i = qeR E 2 i from hC.2.2.1 2 i (by omega) hi, show σ.1 45 0 c = qeR E 2 c from hC.2.2.1 2 c (by omega) hc, show σ.1 65 0 i = D 3 i from hS.2.2.2 3 i (by omega) hi]
    unfold j_X11_isWarm_59 j_X11_isWarm_55 j_X11_isWarm_60
    refine zwp_if (fun e1 => ?_) (fun e1 => ?_)
    · rw [b2i_0] at e1
      refine zwp_if (fun e2 => ?_) (fun e2 => ?_)
      · rw [nI_eq (by omega) (by omega)] at e2
        exact hgo _ (by rw [qany, e1, hpi]; simp [e2]; rfl)
      · rw [nI_eq (by omega) (by omega)] at e2
        refine zwp_if (fun e3 => ?_) (fun e3 => ?_)
        · refine zwp_if (fun e4 => ?_) (fun e4 => ?_)
          · exact hgo _ (by rw [qany, e1, hpi]; simp [e2, e3, e4]; rfl)
          · exact hgo _ (by rw [qany, e1, hpi]; simp [e4]; rfl)
        · exact hgo _ (by rw [qany, e1, hpi]; simp [e3]; rfl)
    · rw [b2i_0, Bool.not_eq_false] at e1
      exact hgo _ (by rw [qany, e1]; rfl)
  · rintro f _ rfl
    rw [k_X11_isWarm_4, hC.2.1, if_neg (nI_nlt (Nat.le_refl _) (by omega)), tv_01 (b2i_01 _)]
    exact zwp_some.mpr rfl
theorem mrow_lt {r : Nat} (h : r < 7) : 62 ≤ mrow r ∧ mrow r ≤ 69 ∧ mrow r ≠ 66 := by unfold mrow; split <;> omega
theorem mrow_inj {r r' : Nat} (h : mrow r = mrow r') : r = r' := by unfold mrow at h; split at h <;> split at h <;> omega
theorem x11_changes {σ0 : zH} (h : rMQ σ0 W E D σ) {c : Nat} (hc : c < qeN E) {is : Int32} (hi : is = 0 ∨ is = 1) (why b : Int32) : zwp (d_X11_changes σ (nI c) is why b) (rMQ σ0 W E (qchg D c is why b)) := by
  obtain ⟨hz, hS, hO, hT, hG⟩ := h
  have hn := hO.2.2.2
  have h65 : σ.1 65 0 c = D 3 c := hS.2.2.2 3 c (by omega) hc
  unfold d_X11_changes j_X11_changes_38
  simp only [ix_nI (show c < 12 by omega) (show 12 < 2 ^ 31 by omega)]
  have key : ∀ x, x = (if is = 0 then D 7 0 else D 3 c) → ∀ τ, τ = uI (uI (uI (uI (uI (uI σ 62 0 c is) 64 0 c 0) 65 0 c x) 67 0 c why) 68 0 c (D 7 0)) 69 0 c b → rMQ σ0 W E (qchg D c is why b) τ := fun x hx τ hτ => by
    subst hτ
    refine ⟨?_, ⟨?_, ?_, ?_, ?_⟩, hO.chg hi, ?_, ?_⟩
    · exact (((((hz.uI (Or.inr (Or.inl (by omega))) _ _).uI (Or.inr (Or.inl (by omega))) _ _).uI (Or.inr (Or.inl (by omega))) _ _).uI (Or.inr (Or.inl (by omega))) _ _).uI (Or.inr (Or.inl (by omega))) _ _).uI (Or.inr (Or.inl (by omega))) _ _
    · rw [qchg_7]; simpa [uI_1] using hS.1
    · rw [qchg_7]; simpa [uI_1] using hS.2.1
    · rw [qchg_7]; simpa [uI_1] using hS.2.2.1
    · intro r i hr hin
      have hb := hS.2.2.2 r i hr hin
      by_cases e : i = c
      · subst e
        have : r = 0 ∨ r = 1 ∨ r = 2 ∨ r = 3 ∨ r = 4 ∨ r = 5 ∨ r = 6 := by omega
        rcases this with rfl | rfl | rfl | rfl | rfl | rfl | rfl
        · rw [qchg_0]; simp [uI_1, mrow]
        · rw [qchg_1]; simpa [uI_1, mrow] using hb
        · rw [qchg_2]; simp [uI_1, mrow]
        · rw [qchg_3, ← hx]; simp [uI_1, mrow]
        · rw [qchg_4]; simp [uI_1, mrow]
        · rw [qchg_5]; simp [uI_1, mrow]
        · rw [qchg_6]; simp [uI_1, mrow]
      · rw [qchg_ne _ e, ← hb]
        simp [uI_1, e]
    · intro j h4 h7 h10
      rw [← hT j h4 h7 h10]
      simp [uI_1]
    · intro j
      rw [← hG j]
      simp [uI_1]
  simp only [zlet]
  have e42 : (uI (uI σ 62 0 c is) 64 0 c 0).1 42 0 4 = D 7 0 := by simpa [uI_1] using hS.1
  have e65 : (uI (uI σ 62 0 c is) 64 0 c 0).1 65 0 c = D 3 c := by simpa [uI_1] using h65
  rw [e42, e65]
  refine zwp_if (fun e => zwp_some.mpr ?_) (fun e => zwp_some.mpr ?_)
  · refine key (D 7 0) (if_pos e).symm _ ?_
    congr 1
    congr 1
  · refine key (D 3 c) (if_neg e).symm _ ?_
    congr 1
    congr 1
end
