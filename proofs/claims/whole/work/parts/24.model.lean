/-! THE REFERENCE: what it only asks -/
theorem in_eq (σ : zH) (a b c : Int64) : d_X11_in σ a b c = some (σ, b2i (!decide (a < b) && !decide (c < a))) := by
  unfold d_X11_in
  simp only [lg_cmp_lt, lg_cmp_gt]
  by_cases h1 : a < b
  · simp [h1, b2i]
  · by_cases h2 : c < a
    · simp [h1, h2, b2i]
    · simp [h1, h2, b2i]
theorem in_32 (σ : zH) (a b c : Int32) : d_X11_in σ a.toInt64 b.toInt64 c.toInt64 = some (σ, b2i (!decide (a < b) && !decide (c < a))) := by
  rw [in_eq]
  simp only [fa_wide_lt]
theorem has_eq (σ : zH) (x : Int32) {i : Nat} (hi : i < 32) : d_X11_has σ x (nI i) = some (σ, b2i (bt x i)) := by
  unfold d_X11_has
  rw [bt_ask x hi]
  cases bt x i <;> rfl
/-- the barracks of the reference, as a quarter sees them; w: the bell that is left out -/
def rMC (σ : zH) (w : Int32) (E : qE) : Prop := qeN E ≤ 12 ∧ σ.1 42 0 0 = nI (qeN E) ∧ (∀ r i, r < 4 → i < qeN E → σ.1 (43 + r) 0 i = qeR E r i) ∧
  (∃ b, b ≤ 8 ∧ σ.1 42 0 1 = nI b ∧ (∀ q, qeB E q = qfst (fun i => !decide (nI i = w) && decide (σ.1 47 0 i = q)) b) ∧ (∀ q, qeT E q = if qeB E q = -1 then 0 else σ.1 48 0 (qeB E q).toNatClampNeg)) ∧
  (∃ d, d ≤ 8 ∧ σ.1 42 0 2 = nI d ∧ ∀ k q, qeU E k q = qfst (fun i => decide (σ.1 49 0 i = nI k) && !decide (q < σ.1 50 0 i) && !decide (σ.1 51 0 i < q)) d) ∧
  σ.1 42 0 8 = qeF E ∧ σ.1 11 0 29 = w
def mrow (r : Nat) : Nat := if r < 4 then 62 + r else 63 + r
def rMS (W : Int32) (σ : zH) (E : qE) (D : qD) : Prop := σ.1 42 0 4 = D 7 0 ∧ σ.1 42 0 10 = D 7 1 ∧ σ.1 42 0 7 = W + D 7 2 ∧ ∀ r i, r < 7 → i < qeN E → σ.1 (mrow r) 0 i = D r i
def FM (k _i : Nat) : Prop := k = 42 ∨ (62 ≤ k ∧ k ≤ 69) ∨ k = 78 ∨ k = 79
/-- in a quarter -/
def rMQ (σ0 : zH) (W : Int32) (E : qE) (D : qD) (σ : zH) : Prop := zsm FM σ0 σ ∧ rMS W σ E D ∧ qOK E D ∧ (∀ j, j ≠ 4 → j ≠ 7 → j ≠ 10 → σ.1 42 0 j = σ0.1 42 0 j) ∧ (∀ j, σ.1 66 0 j = σ0.1 66 0 j)
theorem rMC.mv {σ σ' : zH} {w : Int32} {E : qE} (h : rMC σ w E) (hs : ∀ k, k = 11 ∨ (43 ≤ k ∧ k ≤ 51) → σ'.1 k 0 = σ.1 k 0) (h2 : ∀ j, j ≠ 4 → j ≠ 5 → j ≠ 6 → j ≠ 7 → j ≠ 9 → j ≠ 10 → σ'.1 42 0 j = σ.1 42 0 j) : rMC σ' w E := by
  unfold rMC at h ⊢
  rw [hs 11 (by omega), hs 47 (by omega), hs 48 (by omega), hs 49 (by omega), hs 50 (by omega), hs 51 (by omega), h2 0 (by omega) (by omega) (by omega) (by omega) (by omega) (by omega), h2 1 (by omega) (by omega) (by omega) (by omega) (by omega) (by omega), h2 2 (by omega) (by omega) (by omega) (by omega) (by omega) (by omega), h2 8 (by omega) (by omega) (by omega) (by omega) (by omega) (by omega)]
  exact ⟨h.1, h.2.1, fun r i hr hi => by rw [hs (43 + r) (by omega)]; exact h.2.2.1 r i hr hi, h.2.2.2⟩
theorem rMQ.C {σ0 : zH} {W w : Int32} {E : qE} {D : qD} {σ : zH} (h : rMQ σ0 W E D σ) (hC : rMC σ0 w E) : rMC σ w E :=
  hC.mv (fun k hk => (h.1 k 0 (by unfold FM; omega)).1) (fun j h1 _ _ h4 _ h6 => h.2.2.2.1 j h1 h4 h6)
section
variable {W w : Int32} {σ : zH} {E : qE} {D : qD}
theorem x11_upSet (hC : rMC σ w E) (hS : rMS W σ E D) : d_X11_upSet σ = some (σ, qmask (qup D) (qeN E)) := by
  have hn := hC.1
  rw [← zwp_eq]
  unfold d_X11_upSet
  rw [show k_X11_upSet_4 zN σ (0 : Int32) (0 : Int32) = k_X11_upSet_4 zN σ (0 : Int32) (nI 0) by rw [nI_0]]
  refine zwp_for (fun f i (a : Int32) => k_X11_upSet_4 f σ a (nI i)) (fun i a => a = qmask (qup D) i) _ 0 (qeN E) (by omega) (by omega) ?_ ?_ _ rfl
  · rintro f i _ hi rfl IH
    have h0 := hS.2.2.2 0 i (by omega) hi
    rw [k_X11_upSet_4, hC.2.1, if_pos (nI_lt hi (by omega)), ix_nI (by omega) (by omega)]
    rw [show σ.1 62 0 i = D 0 i from h0]
    unfold j_X11_upSet_31
    rw [nI_1]
    refine zwp_if (fun e => IH _ ?_) (fun e => IH _ ?_)
    · rw [qmask, show qup D i = true from decide_eq_true e]; rfl
    · rw [qmask, show qup D i = false from decide_eq_false e]; rfl
  · rintro f _ rfl
    rw [k_X11_upSet_4, hC.2.1, if_neg (nI_nlt (Nat.le_refl _) (by omega))]
    exact zwp_some.mpr rfl
theorem x11_menOf0 {n : Nat} (h1 : σ.1 42 0 0 = nI n) (h2 : n ≤ 12) (x : Int32) : d_X11_menOf σ x = some (σ, qsum (fun i => if bt x i then σ.1 43 0 i else 0) n) := by
  rw [← zwp_eq]
  unfold d_X11_menOf
  rw [show k_X11_menOf_4 zN σ x (0 : Int32) (0 : Int32) = k_X11_menOf_4 zN σ x (0 : Int32) (nI 0) by rw [nI_0]]
  refine zwp_for (fun f i (a : Int32) => k_X11_menOf_4 f σ x a (nI i)) (fun i a => a = qsum (fun i => if bt x i then σ.1 43 0 i else 0) i) _ 0 n (by omega) (by omega) ?_ ?_ _ rfl
  · rintro f i _ hi rfl IH
    rw [k_X11_menOf_4, h1, if_pos (nI_lt hi (by omega)), has_eq σ x (by omega)]
    simp only [Option.bind_some]
    rw [ix_nI (by omega) (by omega)]
    unfold j_X11_menOf_33
    rw [nI_1]
    refine zwp_if (fun h => ?_) (fun h => ?_)
    · rw [b2i_0] at h
      exact IH _ (by rw [qsum, h]; rfl)
    · rw [b2i_0, Bool.not_eq_false] at h
      exact IH _ (by rw [qsum, h]; rfl)
  · rintro f _ rfl
    rw [k_X11_menOf_4, h1, if_neg (nI_nlt (Nat.le_refl _) (by omega))]
    exact zwp_some.mpr rfl
theorem x11_men (hC : rMC σ w E) (x : Int32) : d_X11_menOf σ x = some (σ, qsum (fun i => if bt x i then qeR E 0 i else 0) (qeN E)) := by
  rw [x11_menOf0 hC.2.1 hC.1]
  congr 2
  refine qsum_cong (fun i hi => ?_)
  have := hC.2.2.1 0 i (by omega) hi
  rw [show σ.1 43 0 i = qeR E 0 i from this]
theorem qmen_up (hn : qeN E ≤ 12) : qsum (fun i => if bt (qmask (qup D) (qeN E)) i then qeR E 0 i else 0) (qeN E) = qmen E D := by
  unfold qmen
  refine qsum_cong (fun i hi => ?_)
  rw [bt_mask _ _ (by omega) _ (by omega), decide_eq_true hi, Bool.true_and]
  unfold qup
  by_cases h : D 0 i = 0 <;> simp [h]
theorem x11_menUp (hC : rMC σ w E) : d_X11_menOf σ (qmask (qup D) (qeN E)) = some (σ, qmen E D) := by
  rw [x11_men hC, qmen_up hC.1]
theorem now_eq (hS : rMS W σ E D) : σ.1 42 0 4 - σ.1 42 0 4 / 96 * 96 = qrem (D 7 0) := by rw [hS.1]; rfl
theorem x11_hasDuty (hC : rMC σ w E) (hS : rMS W σ E D) (c : Nat) : d_X11_hasDuty σ (nI c) = some (σ, b2i (!decide (qeU E c (qrem (D 7 0)) = -1))) := by
  obtain ⟨d, hd, h2, hu⟩ := hC.2.2.2.2.1
  rw [hu, ← zwp_eq]
  generalize hp : (fun i => decide (σ.1 49 0 i = nI c) && !decide (qrem (D 7 0) < σ.1 50 0 i) && !decide (σ.1 51 0 i < qrem (D 7 0))) = p
  have hpi : ∀ i, p i = (decide (σ.1 49 0 i = nI c) && !decide (qrem (D 7 0) < σ.1 50 0 i) && !decide (σ.1 51 0 i < qrem (D 7 0))) := fun i => by rw [← hp]
  have hfin : (!decide (qfst p d = -1)) = qany p d := by
    rcases qfst_cases p d with ⟨h1, h3⟩ | ⟨i, hi, h1, -, h3⟩
    · rw [h1, h3]; rfl
    · rw [qany_of hi h1, h3]
      rw [decide_eq_false]; rfl
      intro h
      have := congrArg Int32.toInt h
      rw [nI_toInt (by omega), i32_m1] at this
      omega
  rw [hfin]
  unfold d_X11_hasDuty
  rw [show k_X11_hasDuty_4 zN σ (nI c) (0 : Int32) (0 : Int32) = k_X11_hasDuty_4 zN σ (nI c) (0 : Int32) (nI 0) by rw [nI_0]]
  refine zwp_for (fun f i (a : Int32) => k_X11_hasDuty_4 f σ (nI c) a (nI i)) (fun i a => a = b2i (qany p i)) _ 0 d (by omega) (by omega) ?_ ?_ _ rfl
  · rintro f i _ hi rfl IH
    have hgo : ∀ x, x = b2i (qany p (i + 1)) → zwp (k_X11_hasDuty_4 f σ (nI c) x (nI i + 1)) (fun a => a = (σ, b2i (qany p d))) := fun x hx => by
      rw [nI_1]; exact IH _ hx
    rw [k_X11_hasDuty_4, h2, if_pos (nI_lt hi (by omega)), now_eq hS]
    simp only [ix_nI (show i < 8 by omega) (show 8 < 2 ^ 31 by omega), Option.bind_some]
    unfold j_X11_hasDuty_62 j_X11_hasDuty_58 j_X11_hasDuty_63
    refine zwp_if (fun e1 => ?_) (fun e1 => ?_)
    · rw [b2i_0] at e1
      refine zwp_if (fun e2 => ?_) (fun e2 => hgo _ (by rw [qany, e1, hpi, decide_eq_false e2]; rfl))
      rw [in_32]
      simp only [Option.bind_some]
      have hq : p i = (!decide (qrem (D 7 0) < σ.1 50 0 i) && !decide (σ.1 51 0 i < qrem (D 7 0))) := by rw [hpi, decide_eq_true e2]; simp
      rw [← hq]
      refine zwp_if (fun e3 => ?_) (fun e3 => ?_)
      · rw [b2i_0] at e3
        exact hgo _ (by rw [qany, e1, e3]; rfl)
      · rw [b2i_0, Bool.not_eq_false] at e3
        exact hgo _ (by rw [qany, e1, e3]; rfl)
    · rw [b2i_0, Bool.not_eq_false] at e1
      exact hgo _ (by rw [qany, e1]; rfl)
  · rintro f _ rfl
    rw [k_X11_hasDuty_4, h2, if_neg (nI_nlt (Nat.le_refl _) (by omega)), tv_01 (b2i_01 _)]
    exact zwp_some.mpr rfl
end
