/-! CALLS: harm; what doesn't hang on the bells' numbers -/
def qwbt (E : qE) (T B : Int32 → Int32) : qE := (E.1, T, B, E.2.2.2.1, E.2.2.2.2.1, E.2.2.2.2.2.1, E.2.2.2.2.2.2)
def qsim (D D' : qD) : Prop := ∀ r i, r ≠ 6 → D r i = D' r i
theorem qsim.chg {D D' : qD} (h : qsim D D') (c : Nat) (is why b b' : Int32) : qsim (qchg D c is why b) (qchg D' c is why b') := by
  intro r i hr
  by_cases e : i = c
  · subst e
    by_cases h0 : r = 0
    · rw [h0, qchg_0, qchg_0]
    by_cases h1 : r = 1
    · rw [h1, qchg_1, qchg_1, h 1 i (by omega)]
    by_cases h2 : r = 2
    · rw [h2, qchg_2, qchg_2]
    by_cases h3 : r = 3
    · rw [h3, qchg_3, qchg_3, h 7 0 (by omega), h 3 i (by omega)]
    by_cases h4 : r = 4
    · rw [h4, qchg_4, qchg_4]
    by_cases h5 : r = 5
    · rw [h5, qchg_5, qchg_5, h 7 0 (by omega)]
    have : ∀ (D : qD) (b : Int32), qchg D i is why b r i = D r i := fun D b => by
      unfold qchg
      rw [if_pos rfl]
      split <;> first | omega | rfl
    rw [this, this, h r i hr]
  · rw [qchg_ne _ e, qchg_ne _ e, h r i hr]
theorem qsim.du {D D' : qD} (h : qsim D D') (r i : Nat) {v v' : Int32} (e : v = v') : qsim (dU D r i v) (dU D' r i v') := by
  intro r' i' hr
  by_cases hh : r' = r ∧ i' = i
  · obtain ⟨rfl, rfl⟩ := hh
    rw [dU_eq, dU_eq, e]
  · rw [dU_ne _ _ hh, dU_ne _ _ hh, h r' i' hr]
section
variable {E : qE} {B : Int32 → Int32} {D D' : qD}
theorem qsim.men (h : qsim D D') : qmen (qwbt E (qeT E) B) D' = qmen E D := qsum_cong (fun i _ => by rw [h 0 i (by omega)]; rfl)
theorem qsim.taken (h : qsim D D') (c : Nat) : qtaken (qwbt E (qeT E) B) D' c = qtaken E D c := qany_cong (fun o _ => by unfold qdown; rw [h 0 o (by omega)]; rfl)
theorem qsim.warm (h : qsim D D') (c : Nat) : qwarm (qwbt E (qeT E) B) D' c = qwarm E D c := qany_cong (fun o _ => by rw [h 7 0 (by omega), h 3 o (by omega)]; rfl)
theorem qsim.val (h : qsim D D') (c : Nat) : qval (qwbt E (qeT E) B) D' c = qval E D c := by
  have hm := h.men (E := E) (B := B)
  funext w
  unfold qval
  rw [hm, h 7 0 (by omega), h 1 c (by omega), h 2 c (by omega)]
  rfl
theorem qsim.lie (h : qsim D D') (c : Nat) : qsim (qlie1 E c D) (qlie1 (qwbt E (qeT E) B) c D') := by
  have e : qlie1 (qwbt E (qeT E) B) c D' = if D 0 c = 0 ∧ qeU E c (qrem (D 7 0)) = -1 ∧ ¬ D 7 0 < qeF E ∧ qtaken E D c = false ∧ qeL E true (qval E D c) = true then
      qchg (dU D' 7 2 (D 7 2 + (if qwarm E D c then qeR E 0 c else 0))) c 1 3 (B (qrem (D 7 0))) else D' := by
    unfold qlie1
    rw [h.taken, h.val, h.warm, ← h 0 c (by omega), ← h 7 0 (by omega), ← h 7 2 (by omega)]
    rfl
  rw [e]
  unfold qlie1
  split
  · exact (h.du 7 2 rfl).chg _ _ _ _ _
  · exact h
theorem qsim.wake (h : qsim D D') (c : Nat) : qsim (qwake1 E c D) (qwake1 (qwbt E (qeT E) B) c D') := by
  have e : qwake1 (qwbt E (qeT E) B) c D' = if qeU E c (qrem (D 7 0)) = -1 then (if D 7 0 < qeF E then qchg D' c 0 5 (-1) else if qeL E false (qval E D c) then qchg D' c 0 6 (B (qrem (D 7 0))) else D') else qchg D' c 0 4 (qeU E c (qrem (D 7 0))) := by
    unfold qwake1
    rw [h.val, ← h 7 0 (by omega)]
    rfl
  rw [e]
  unfold qwake1
  split
  · split
    · exact h.chg _ _ _ _ _
    · split
      · exact h.chg _ _ _ _ _
      · exact h
  · exact h.chg _ _ _ _ _
theorem qsim.next (h : qsim D D') (c : Nat) : qnext (qwbt E (qeT E) B) D' c = qnext E D c := qfst_cong (fun k _ => by unfold qdown; rw [h 0 _ (by omega)]; rfl)
theorem qsim.snore (h : qsim D D') (c : Nat) : qsim (qsnore1 E c D) (qsnore1 (qwbt E (qeT E) B) c D') := by
  have e : qsnore1 (qwbt E (qeT E) B) c D' = if D 0 c = 0 then D' else if qdraw (D 7 1) / 65536 - qdraw (D 7 1) / 65536 / 100 * 100 < qeR E 3 c then (if qnext E D c = -1 then dU D' 7 1 (qdraw (D 7 1)) else qchg (dU D' 7 1 (qdraw (D 7 1))) ((c + (qnext E D c).toNatClampNeg) % qeN E) 0 7 (nI c)) else dU D' 7 1 (qdraw (D 7 1)) := by
    unfold qsnore1
    dsimp only
    rw [h.next, ← h 0 c (by omega), ← h 7 1 (by omega)]
    rfl
  rw [e]
  unfold qsnore1
  dsimp only
  split
  · exact h
  · split
    · split
      · exact h.du 7 1 rfl
      · exact (h.du 7 1 rfl).chg _ _ _ _ _
    · exact h.du 7 1 rfl
theorem qsim.tire (h : qsim D D') (c : Nat) : qsim (qtire1 c D) (qtire1 c D') := by
  unfold qtire1
  rw [h 1 c (by omega), h 0 c (by omega), h 2 c (by omega)]
  exact (h.du 1 c rfl).du 2 c rfl
theorem qsim.for {f g : Nat → qD → qD} (hfg : ∀ c D D', qsim D D' → qsim (f c D) (g c D')) (h : qsim D D') : ∀ n, qsim (qfor f n D) (qfor g n D')
  | 0 => by rw [qfor_0, qfor_0]; exact h
  | n + 1 => by rw [qfor, qfor]; exact hfg _ _ _ (qsim.for hfg h n)
theorem qwbt_N : qeN (qwbt E (qeT E) B) = qeN E := rfl
theorem qsim.quarter (h : qsim D D') : qsim (qqu E D) (qqu (qwbt E (qeT E) B) D') := by
  have h1 : qsim (qq1 E D) (qq1 (qwbt E (qeT E) B) D') := by
    unfold qq1
    rw [qwbt_N]
    exact qsim.for (fun c _ _ q => q.lie c) h _
  have h2 : qsim (qq2 E D) (qq2 (qwbt E (qeT E) B) D') := by
    unfold qq2
    rw [qwbt_N]
    refine qsim.for (fun c _ _ q => ?_) h1 _
    rw [h 0 c (by omega)]
    split
    · exact q
    · exact q.wake c
  have h3 : qsim (qq3 E D) (qq3 (qwbt E (qeT E) B) D') := by
    unfold qq3
    rw [qwbt_N]
    exact qsim.for (fun c _ _ q => q.snore c) h2 _
  have h4 : qsim (qq4 E D) (qq4 (qwbt E (qeT E) B) D') := by
    unfold qq4
    rw [qwbt_N]
    exact qsim.for (fun c _ _ q => q.tire c) h3 _
  unfold qqu
  exact h4.du 7 0 (by rw [h4 7 0 (by omega)])
theorem qsim.run (h : qsim D D') : ∀ n, qsim (qrun E n D) (qrun (qwbt E (qeT E) B) n D')
  | 0 => by rw [qrun, qrun]; exact h
  | n + 1 => by rw [qrun, qrun]; exact (h.run n).quarter
theorem qsim.stn (h : qsim D D') (w : Int32) (a : Int32 × Int32 × Int32) : ∀ n, qstn (qwbt E (qeT E) B) w n D' a = qstn E w n D a
  | 0 => by rw [qstn, qstn]
  | n + 1 => by
    have e1 := (h.run (E := E) (B := B) (n + 1)).men (E := E) (B := B)
    rw [qstn, qstn, h.stn w a n, e1, h.run (E := E) (B := B) n 7 0 (by omega)]
end
theorem qsim.rf (D : qD) : qsim D D := fun _ _ _ => rfl
theorem qout1_lo {E : qE} {w : Int32} {n : Nat} {D : qD} : qout E w n n D 1 = (qstn E w n D (0, -2, qall E)).1 := by
  unfold qout
  rw [qts_lo D _ n (Nat.le_refl _)]
  rfl
/-- the bells without the k-th: two ways to see them -/
theorem drop_bell (a t : Nat → Int32) {b k : Nat} (hk : k < b) (hb : b ≤ 8) (q : Int32) (a' t' : Nat → Int32) (ha : ∀ i, i + 1 < b → a' i = if i < k then a i else a (i + 1)) (ht : ∀ i, i + 1 < b → t' i = if i < k then t i else t (i + 1)) :
    (if qfst (fun i => decide (a' i = q)) (b - 1) = -1 then (0 : Int32) else t' (qfst (fun i => decide (a' i = q)) (b - 1)).toNatClampNeg) = (if qfst (fun i => !decide (nI i = nI k) && decide (a i = q)) b = -1 then 0 else t (qfst (fun i => !decide (nI i = nI k) && decide (a i = q)) b).toNatClampNeg) := by
  have hp : ∀ i, i < b → ((!decide (nI i = nI k) && decide (a i = q)) = true ↔ (i ≠ k ∧ a i = q)) := fun i hi => by
    rw [Bool.and_eq_true, decide_eq_true_eq, Bool.not_eq_true', decide_eq_false_iff_not, nI_eq (by omega) (by omega)]
  rcases qfst_cases (fun i => !decide (nI i = nI k) && decide (a i = q)) b with ⟨h1, h2⟩ | ⟨i, hi, hpi, hj, h2⟩
  · have h3 : qany (fun i => decide (a' i = q)) (b - 1) = false := qany_no (fun i hi => by
      rw [decide_eq_false_iff_not, ha i (by omega)]
      intro e
      by_cases hik : i < k
      · rw [if_pos hik] at e
        have := qany_f h1 i (by omega)
        rw [← Bool.not_eq_true, hp i (by omega)] at this
        exact this ⟨by omega, e⟩
      · rw [if_neg hik] at e
        have := qany_f h1 (i + 1) (by omega)
        rw [← Bool.not_eq_true, hp (i + 1) (by omega)] at this
        exact this ⟨by omega, e⟩)
    rw [h2, qfst_no h3, if_pos rfl, if_pos rfl]
  · rw [hp i hi] at hpi
    have hno : ∀ j, j < i → ¬ (j ≠ k ∧ a j = q) := fun j hj2 => by
      have := hj j hj2
      rw [← Bool.not_eq_true, hp j (by omega)] at this
      exact this
    by_cases hik : i < k
    · have h3 : qfst (fun i => decide (a' i = q)) (b - 1) = nI i := qfst_of (qany_no (fun j hj2 => by
        rw [decide_eq_false_iff_not, ha j (by omega), if_pos (by omega)]
        exact fun e => hno j hj2 ⟨by omega, e⟩)) (by rw [decide_eq_true_eq, ha i (by omega), if_pos hik]; exact hpi.2) (by omega)
      rw [h2, h3, if_neg (ne_m1 (by omega)), if_neg (ne_m1 (by omega)), nI_clamp (by omega), ht i (by omega), if_pos hik]
    · have h3 : qfst (fun i => decide (a' i = q)) (b - 1) = nI (i - 1) := qfst_of (qany_no (fun j hj2 => by
        rw [decide_eq_false_iff_not, ha j (by omega)]
        intro e
        by_cases hjk : j < k
        · rw [if_pos hjk] at e
          exact hno j (by omega) ⟨by omega, e⟩
        · rw [if_neg hjk] at e
          exact hno (j + 1) (by omega) ⟨by omega, e⟩)) (by rw [decide_eq_true_eq, ha (i - 1) (by omega), if_neg (by omega), show i - 1 + 1 = i by omega]; exact hpi.2) (by omega)
      rw [h2, h3, if_neg (ne_m1 (by omega)), if_neg (ne_m1 (by omega)), nI_clamp (by omega), nI_clamp (by omega), ht (i - 1) (by omega), if_neg (by omega), show i - 1 + 1 = i by omega]
theorem x0_dropBell {σ : zH} {c b k : Nat} (h1 : σ.1 0 c 5 = nI b) (hb : b ≤ 8) (hk : k < b) : zwp (d_X0_dropBell σ c (nI k)) (fun σ' => zsm (fun k' i => (k' = 0 ∨ k' = 16 ∨ k' = 17) ∧ i = c) σ σ' ∧ σ'.1 0 c 5 = nI (b - 1) ∧ (∀ j, j ≠ 5 → σ'.1 0 c j = σ.1 0 c j) ∧
    ∀ i, i + 1 < b → (σ'.1 16 c i = if i < k then σ.1 16 c i else σ.1 16 c (i + 1)) ∧ (σ'.1 17 c i = if i < k then σ.1 17 c i else σ.1 17 c (i + 1))) := by
  unfold d_X0_dropBell
  refine zwp_for (fun f i (σ' : zH) => k_X0_dropBell_2 j_X0_dropBell_46 f σ' c (nI i)) (fun i σ' => k ≤ i ∧ zsm (fun k' i => (k' = 16 ∨ k' = 17) ∧ i = c) σ σ' ∧ (∀ j, j < i → (σ'.1 16 c j = if j < k then σ.1 16 c j else σ.1 16 c (j + 1)) ∧ (σ'.1 17 c j = if j < k then σ.1 17 c j else σ.1 17 c (j + 1))) ∧ ∀ j, i ≤ j → σ'.1 16 c j = σ.1 16 c j ∧ σ'.1 17 c j = σ.1 17 c j) _ k (b - 1) (by omega) (by omega) ?_ ?_ σ ⟨Nat.le_refl _, zsm.rf, fun j hj => by rw [if_pos hj, if_pos hj]; exact ⟨rfl, rfl⟩, fun _ _ => ⟨rfl, rfl⟩⟩
  · rintro f i σ' hi ⟨hki, i1, i2, i3⟩ IH
    have e5 : σ'.1 0 c 5 = nI b := by rw [(i1 0 c (by omega)).1]; exact h1
    rw [k_X0_dropBell_2, nI_1, e5, if_pos (nI_lt (by omega) (by omega))]
    simp only [ix_nI (show i + 1 < 8 by omega) (show 8 < 2 ^ 31 by omega), ix_nI (show i < 8 by omega) (show 8 < 2 ^ 31 by omega), Nat.add_zero]
    refine zwp_let.mpr (zwp_let.mpr (IH _ ⟨by omega, (i1.uI ⟨Or.inl rfl, rfl⟩ _ _).uI ⟨Or.inr rfl, rfl⟩ _ _, fun j hj => ?_, fun j hj => ?_⟩))
    · by_cases e : j = i
      · subst e
        rw [if_neg (by omega), if_neg (by omega)]
        constructor
        · rw [uI_1, if_neg (by omega), uI_1, if_pos ⟨rfl, rfl, rfl⟩, (i3 _ (by omega)).1]
        · rw [uI_1, if_pos ⟨rfl, rfl, rfl⟩, uI_1, if_neg (by omega), (i3 _ (by omega)).2]
      · constructor
        · rw [uI_1, if_neg (by omega), uI_1, if_neg (by omega)]; exact (i2 j (by omega)).1
        · rw [uI_1, if_neg (by omega), uI_1, if_neg (by omega)]; exact (i2 j (by omega)).2
    · constructor
      · rw [uI_1, if_neg (by omega), uI_1, if_neg (by omega)]; exact (i3 j (by omega)).1
      · rw [uI_1, if_neg (by omega), uI_1, if_neg (by omega)]; exact (i3 j (by omega)).2
  · rintro f σ' ⟨hki, i1, i2, i3⟩
    have e5 : σ'.1 0 c 5 = nI b := by rw [(i1 0 c (by omega)).1]; exact h1
    rw [k_X0_dropBell_2, nI_1, e5, if_neg (nI_nlt (by omega) (by omega))]
    unfold j_X0_dropBell_46
    refine zwp_let.mpr (zwp_some.mpr ⟨(i1.mono (fun k' i q => ⟨Or.inr q.1, q.2⟩)).uI ⟨Or.inl rfl, rfl⟩ _ _, ?_, fun j hj => ?_, fun i hi => ?_⟩)
    · rw [uI_1, if_pos ⟨rfl, rfl, rfl⟩, e5, show b = (b - 1) + 1 by omega, nI_pred]
      rfl
    · rw [uI_1, if_neg (by omega), (i1 0 c (by omega)).1]
    · have u : ∀ k' j, k' ≠ 0 → (uI σ' 0 c 5 (σ'.1 0 c 5 - 1)).1 k' c j = σ'.1 k' c j := fun k' j hk' => by rw [uI_1, if_neg (fun q => hk' q.1)]
      rw [u 16 i (by omega), u 17 i (by omega)]
      exact i2 i (by omega)
