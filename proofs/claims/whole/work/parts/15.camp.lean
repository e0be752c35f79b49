/-! THE CLASS: Camp; what of State only asks -/
theorem nI_c0 : (0 : Int32) = nI 0 := nI_0.symm
theorem x0_firstBell {σ : zH} {c b : Nat} (h1 : σ.1 0 c 5 = nI b) (h2 : b ≤ 8) (q : Int32) : d_X0_firstBell σ c q = some (σ, qfst (fun i => decide (σ.1 16 c i = q)) b) := by
  rw [← zwp_eq]
  unfold d_X0_firstBell
  rw [nI_c0]
  refine zwp_for (fun f i (_ : Unit) => k_X0_firstBell_2 f σ c q (nI i)) (fun i _ => qany (fun i => decide (σ.1 16 c i = q)) i = false) _ 0 b (by omega) (by omega) ?_ ?_ () rfl
  · intro f i _ hi hI IH
    rw [k_X0_firstBell_2, h1, if_pos (nI_lt hi (by omega)), ix_nI (by omega) (by omega), Nat.add_zero]
    refine zwp_if (fun h => ?_) (fun h => ?_)
    · exact zwp_some.mpr (by rw [qfst_of hI (decide_eq_true h) hi])
    · rw [nI_1]
      exact IH () (by rw [qany, hI, decide_eq_false h]; rfl)
  · intro f _ hI
    rw [k_X0_firstBell_2, h1, if_neg (nI_nlt (Nat.le_refl _) (by omega))]
    exact zwp_some.mpr (by rw [qfst_no hI])
theorem x0_firstDuty {σ : zH} {c d : Nat} (h1 : σ.1 0 c 8 = nI d) (h2 : d ≤ 8) (x q : Int32) : d_X0_firstDuty σ c x q = some (σ, qfst (fun i => decide (σ.1 18 c i = x) && !decide (q < σ.1 19 c i) && !decide (σ.1 20 c i < q)) d) := by
  generalize hp : (fun i => decide (σ.1 18 c i = x) && !decide (q < σ.1 19 c i) && !decide (σ.1 20 c i < q)) = p
  rw [← zwp_eq]
  unfold d_X0_firstDuty
  rw [nI_c0]
  refine zwp_for (fun f i (_ : Unit) => k_X0_firstDuty_2 f σ c x q (nI i)) (fun i _ => qany p i = false) _ 0 d (by omega) (by omega) ?_ ?_ () rfl
  · intro f i _ hi hI IH
    have hgo : p i = false → zwp (k_X0_firstDuty_2 f σ c x q (nI i + 1)) (fun a => a = (σ, qfst p d)) := fun h => by
      rw [nI_1]
      exact IH () (by rw [qany, hI, h]; rfl)
    have hpi : p i = (decide (σ.1 18 c i = x) && !decide (q < σ.1 19 c i) && !decide (σ.1 20 c i < q)) := by rw [← hp]
    rw [k_X0_firstDuty_2, h1, if_pos (nI_lt hi (by omega))]
    simp only [ix_nI (show i < 8 by omega) (show 8 < 2 ^ 31 by omega), Nat.add_zero]
    refine zwp_if (fun e1 => ?_) (fun e1 => hgo (by rw [hpi]; simp [e1]))
    refine zwp_if (fun e2 => hgo (by rw [hpi]; simp [e2])) (fun e2 => ?_)
    refine zwp_if (fun e3 => hgo (by rw [hpi]; simp [e3])) (fun e3 => ?_)
    exact zwp_some.mpr (by rw [qfst_of hI (by rw [hpi]; simp [e1, e2, e3]) hi])
  · intro f _ hI
    rw [k_X0_firstDuty_2, h1, if_neg (nI_nlt (Nat.le_refl _) (by omega))]
    exact zwp_some.mpr (by rw [qfst_no hI])
theorem x0_menOf {σ : zH} {c n : Nat} (h1 : σ.1 0 c 0 = nI n) (h2 : n ≤ 12) (x : Int32) : d_X0_menOf σ c x = some (σ, qsum (fun i => if bt x i then σ.1 12 c i else 0) n) := by
  rw [← zwp_eq]
  unfold d_X0_menOf
  rw [nI_c0]
  refine zwp_for (fun f i (a : Int32) => k_X0_menOf_4 f σ c x a (nI i)) (fun i a => a = qsum (fun i => if bt x i then σ.1 12 c i else 0) i) _ 0 n (by omega) (by omega) ?_ ?_ _ nI_0
  · rintro f i _ hi rfl IH
    rw [k_X0_menOf_4, h1, if_pos (nI_lt hi (by omega)), bt_ask x (by omega), nI_1, ix_nI (by omega) (by omega)]
    refine zwp_if (fun h => ?_) (fun h => ?_)
    · rw [b2i_0] at h
      exact IH _ (by rw [qsum, h]; simp)
    · rw [b2i_0, Bool.not_eq_false] at h
      exact IH _ (by rw [qsum, h]; simp)
  · rintro f _ rfl
    rw [k_X0_menOf_4, h1, if_neg (nI_nlt (Nat.le_refl _) (by omega))]
    exact zwp_some.mpr rfl
/-- a Camp, as a quarter sees it -/
def rC (σ : zH) (c : Nat) (E : qE) : Prop := qeN E ≤ 12 ∧ σ.1 0 c 0 = nI (qeN E) ∧ (∀ r i, r < 4 → i < qeN E → σ.1 (12 + r) c i = qeR E r i) ∧
  (∃ b, b ≤ 8 ∧ σ.1 0 c 5 = nI b ∧ (∀ q, qeB E q = qfst (fun i => decide (σ.1 16 c i = q)) b) ∧ (∀ q, qeT E q = if qeB E q = -1 then 0 else σ.1 17 c (qeB E q).toNatClampNeg)) ∧
  (∃ d, d ≤ 8 ∧ σ.1 0 c 8 = nI d ∧ ∀ k q, qeU E k q = qfst (fun i => decide (σ.1 18 c i = nI k) && !decide (q < σ.1 19 c i) && !decide (σ.1 20 c i < q)) d)
theorem rC.mv {σ σ' : zH} {c : Nat} {E : qE} (h : rC σ c E) (hs : ∀ k, k = 0 ∨ (12 ≤ k ∧ k ≤ 20) → σ'.1 k c = σ.1 k c) : rC σ' c E := by
  unfold rC at h ⊢
  rw [hs 0 (Or.inl rfl), hs 16 (by omega), hs 17 (by omega), hs 18 (by omega), hs 19 (by omega), hs 20 (by omega)]
  exact ⟨h.1, h.2.1, fun r i hr hi => by rw [hs (12 + r) (by omega)]; exact h.2.2.1 r i hr hi, h.2.2.2⟩
/-- a State, as a quarter sees it; W: how many were warm ahead of what D counts -/
def rS (W : Int32) (σ : zH) (s : Nat) (E : qE) (D : qD) : Prop :=
  σ.1 8 s 1 = D 7 0 ∧ σ.1 8 s 2 = D 7 1 ∧ σ.1 8 s 3 = qeF E ∧ σ.1 8 s 4 = qmask (qdown D) (qeN E) ∧ σ.1 8 s 5 = qmen E D ∧ σ.1 8 s 15 = W + D 7 2 ∧
  (∀ r i, r < 7 → r ≠ 0 → r ≠ 3 → i < qeN E → σ.1 (30 + r) s i = D r i) ∧ (∀ i, i < qeN E → σ.1 33 s i = D 3 i ∨ (σ.1 33 s i = -1000 ∧ D 3 i = -100))
theorem x8_asleep0 {σ : zH} {s i : Nat} {m : Int32} (h : σ.1 8 s 4 = m) (hi : i < 32) : d_X8_isAsleep σ s (nI i) = some (σ, b2i (bt m i)) := by
  unfold d_X8_isAsleep
  rw [h, bt_ask m hi]
  cases bt m i <;> rfl
section
variable {W : Int32} {σ : zH} {s : Nat} {E : qE} {D : qD}
theorem x8_asleep (hC : rC σ (s + 1) E) (hS : rS W σ s E D) {i : Nat} (hi : i < qeN E) : d_X8_isAsleep σ s (nI i) = some (σ, b2i (qdown D i)) := by
  have := hC.1
  rw [x8_asleep0 hS.2.2.2.1 (by omega), bt_mask _ _ (by omega) _ (by omega), decide_eq_true hi, Bool.true_and]
theorem x8_bedIsTaken (hC : rC σ (s + 1) E) (hS : rS W σ s E D) {c : Nat} (hc : c < qeN E) : d_X8_bedIsTaken σ s (nI c) = some (σ, b2i (qtaken E D c)) := by
  have hn := hC.1
  unfold qtaken
  generalize hp : (fun o => decide (o ≠ c) && qdown D o && decide (qeR E 2 o = qeR E 2 c)) = p
  rw [← zwp_eq]
  unfold d_X8_bedIsTaken
  rw [nI_c0]
  refine zwp_for (fun f i (_ : Unit) => k_X8_bedIsTaken_2 f σ s (nI c) (nI i)) (fun i _ => qany p i = false) _ 0 (qeN E) (by omega) (by omega) ?_ ?_ () rfl
  · intro f i _ hi hI IH
    have hgo : p i = false → zwp (k_X8_bedIsTaken_2 f σ s (nI c) (nI i + 1)) (fun a => a = (σ, b2i (qany p (qeN E)))) := fun h => by
      rw [nI_1]
      exact IH () (by rw [qany, hI, h]; rfl)
    have hpi : p i = (decide (i ≠ c) && qdown D i && decide (qeR E 2 i = qeR E 2 c)) := by rw [← hp]
    rw [k_X8_bedIsTaken_2, hC.2.1, if_pos (nI_lt hi (by omega)), x8_asleep hC hS hi]
    simp only [ix_nI (show i < 12 by omega) (show 12 < 2 ^ 31 by omega), ix_nI (show c < 12 by omega) (show 12 < 2 ^ 31 by omega), Nat.add_zero, Option.bind_some]
    rw [hC.2.2.1 2 i (by omega) hi, hC.2.2.1 2 c (by omega) hc]
    refine zwp_if (fun e1 => hgo (by rw [nI_eq (by omega) (by omega)] at e1; rw [hpi]; simp [e1])) (fun e1 => ?_)
    refine zwp_if (fun e2 => hgo (by rw [b2i_0] at e2; rw [hpi]; simp [e2])) (fun e2 => ?_)
    refine zwp_if (fun e3 => ?_) (fun e3 => hgo (by rw [hpi]; simp [e3]))
    rw [b2i_0, Bool.not_eq_false] at e2
    rw [nI_eq (by omega) (by omega)] at e1
    exact zwp_some.mpr (by rw [qany_of hi (show p i = true by rw [hpi]; simp [e1, e2, e3])]; rfl)
  · intro f _ hI
    rw [k_X8_bedIsTaken_2, hC.2.1, if_neg (nI_nlt (Nat.le_refl _) (by omega))]
    exact zwp_some.mpr (by rw [hI]; rfl)
theorem x8_bedIsWarm (hC : rC σ (s + 1) E) (hS : rS W σ s E D) (h0 : 0 ≤ (D 7 0).toInt) {c : Nat} (hc : c < qeN E) : d_X8_bedIsWarm σ s (nI c) = some (σ, b2i (qwarm E D c)) := by
  have hn := hC.1
  unfold qwarm
  generalize hp : (fun o => decide (o ≠ c) && decide (qeR E 2 o = qeR E 2 c) && decide (D 7 0 - 4 < D 3 o)) = p
  rw [← zwp_eq]
  unfold d_X8_bedIsWarm
  rw [nI_c0]
  refine zwp_for (fun f i (_ : Unit) => k_X8_bedIsWarm_2 f σ s (nI c) (nI i)) (fun i _ => qany p i = false) _ 0 (qeN E) (by omega) (by omega) ?_ ?_ () rfl
  · intro f i _ hi hI IH
    have hgo : p i = false → zwp (k_X8_bedIsWarm_2 f σ s (nI c) (nI i + 1)) (fun a => a = (σ, b2i (qany p (qeN E)))) := fun h => by
      rw [nI_1]
      exact IH () (by rw [qany, hI, h]; rfl)
    have hpi : p i = (decide (i ≠ c) && decide (qeR E 2 i = qeR E 2 c) && decide (D 7 0 - 4 < D 3 i)) := by rw [← hp]
    have hr : (D 7 0 - 4 < σ.1 33 s i) ↔ (D 7 0 - 4 < D 3 i) := by
      rcases hS.2.2.2.2.2.2.2 i hi with e | ⟨e1, e2⟩
      · rw [e]
      · rw [e1, e2, fa_lt, fa_lt]
        have h9 := fb_rng (D 7 0)
        have h4 : (4 : Int32).toInt = 4 := by decide
        have h5 : (D 7 0 - 4).toInt = (D 7 0).toInt - 4 := by rw [fb_subI (by omega) (by omega), h4]
        have h6 : (-1000 : Int32).toInt = -1000 := by decide
        have h7 : (-100 : Int32).toInt = -100 := by decide
        omega
    rw [k_X8_bedIsWarm_2, hC.2.1, if_pos (nI_lt hi (by omega))]
    simp only [ix_nI (show i < 12 by omega) (show 12 < 2 ^ 31 by omega), ix_nI (show c < 12 by omega) (show 12 < 2 ^ 31 by omega), Nat.add_zero, Option.bind_some]
    rw [hC.2.2.1 2 i (by omega) hi, hC.2.2.1 2 c (by omega) hc, hS.1]
    refine zwp_if (fun e1 => hgo (by rw [nI_eq (by omega) (by omega)] at e1; rw [hpi]; simp [e1])) (fun e1 => ?_)
    refine zwp_if (fun e3 => ?_) (fun e3 => hgo (by rw [hpi]; simp [e3]))
    rw [nI_eq (by omega) (by omega)] at e1
    refine zwp_if (fun e2 => ?_) (fun e2 => hgo (by rw [hr] at e2; rw [hpi]; simp [e2]))
    rw [hr] at e2
    exact zwp_some.mpr (by rw [qany_of hi (show p i = true by rw [hpi]; simp [e1, e2, e3])]; rfl)
  · intro f _ hI
    rw [k_X8_bedIsWarm_2, hC.2.1, if_neg (nI_nlt (Nat.le_refl _) (by omega))]
    exact zwp_some.mpr (by rw [hI]; rfl)
end
