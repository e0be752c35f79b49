/-! THE REFERENCE: a quarter, whole -/
theorem rMQ.tire {σ0 : zH} {W : Int32} {E : qE} {D : qD} {σ : zH} (h : rMQ σ0 W E D σ) {c : Nat} (hc : c < qeN E) {a b : Int32} (ha : a = qclamp (D 1 c + (if D 0 c = 0 then 1 else -2))) (hb : b = D 2 c + (if D 2 c < 999 then 1 else 0)) :
    rMQ σ0 W E (qtire1 c D) (uI (uI σ 63 0 c a) 64 0 c b) := by
  obtain ⟨hz, hS, hO, hT, hG⟩ := h
  refine ⟨(hz.uI (Or.inr (Or.inl (by omega))) _ _).uI (Or.inr (Or.inl (by omega))) _ _, ⟨?_, ?_, ?_, ?_⟩, hO.tire c, ?_, ?_⟩
  · rw [qtire1_ne (by omega)]; simpa [uI_1] using hS.1
  · rw [qtire1_ne (by omega)]; simpa [uI_1] using hS.2.1
  · rw [qtire1_ne (by omega)]; simpa [uI_1] using hS.2.2.1
  · intro r i hr hi
    have hq := hS.2.2.2 r i hr hi
    by_cases e1 : r = 1
    · subst e1
      by_cases e : i = c
      · subst e; rw [qtire1_1, ← ha]; simp [uI_1, mrow]
      · rw [qtire1_ne (by omega), ← hq]; simp [uI_1, mrow, e]
    · by_cases e2 : r = 2
      · subst e2
        by_cases e : i = c
        · subst e; rw [qtire1_2, ← hb]; simp [uI_1, mrow]
        · rw [qtire1_ne (by omega), ← hq]; simp [uI_1, mrow, e]
      · rw [qtire1_ne (by omega), ← hq]
        have h63 : mrow r ≠ 63 := fun q => e1 (mrow_inj (r' := 1) q)
        have h64 : mrow r ≠ 64 := fun q => e2 (mrow_inj (r' := 2) q)
        simp [uI_1, h63, h64]
  · intro j h4 h7 h10
    rw [← hT j h4 h7 h10]
    simp [uI_1]
  · intro j
    rw [← hG j]
    simp [uI_1]
/-- how the reference counts: fails, the first one, the log's quarters, the log -/
def mst (σ σ' : zH) (w men now : Int32) (up : Int32) : Prop :=
  σ'.1 42 0 5 = (if men < w then σ.1 42 0 5 + 1 else σ.1 42 0 5) ∧ σ'.1 42 0 6 = (if men < w then (if σ.1 42 0 5 = 0 then now else σ.1 42 0 6) else σ.1 42 0 6) ∧
  σ'.1 42 0 9 = σ.1 42 0 9 + (if σ.1 42 0 9 < 192 then 1 else 0) ∧ (∀ j, j < 192 → σ'.1 66 0 j = if j = 0 then up else σ.1 66 0 (j - 1))
section
variable {W w : Int32} {σ0 : zH} {E : qE} {r : Nat} {cl : List (Bool × List qop)}
theorem x11_shift {σ : zH} {up : Int32} (hup : ∀ σ' : zH, True) (c : zH → Int32 → Option zH) (Q : zH → Prop)
    (hc : ∀ σ', (∀ k i j, ¬ (k = 66 ∧ i = 0) → σ'.1 k i j = σ.1 k i j) → σ'.2 = σ.2 → (∀ j, 0 < j → j < 192 → σ'.1 66 0 j = σ.1 66 0 (j - 1)) → zwp (c σ' up) Q) : zwp (k_X11_quarter_211 c zN σ up (191 : Int32)) Q := by
  rw [show k_X11_quarter_211 c zN σ up (191 : Int32) = k_X11_quarter_211 c zN σ up (nI (191 - 0)) from rfl]
  refine zwp_for (fun f i (σ' : zH) => k_X11_quarter_211 c f σ' up (nI (191 - i))) (fun i σ' => (∀ k i j, ¬ (k = 66 ∧ i = 0) → σ'.1 k i j = σ.1 k i j) ∧ σ'.2 = σ.2 ∧ (∀ j, 191 - i < j → j < 192 → σ'.1 66 0 j = σ.1 66 0 (j - 1)) ∧ (∀ j, j ≤ 191 - i → σ'.1 66 0 j = σ.1 66 0 j)) _ 0 191 (by omega) (by omega) ?_ ?_ σ ⟨fun _ _ _ _ => rfl, rfl, fun j h1 h2 => by omega, fun _ _ => rfl⟩
  · rintro f i σ' hi ⟨h1, h2, h3, h4⟩ IH
    rw [k_X11_quarter_211, if_pos (show (0 : Int32) < nI (191 - i) from nI_lt (a := 0) (by omega) (by omega))]
    have e1 : nI (191 - i) - 1 = nI (191 - (i + 1)) := by
      rw [show 191 - i = (191 - (i + 1)) + 1 by omega, nI_pred]
    have e2 : nI (191 - i) + -1 = nI (191 - (i + 1)) := by
      rw [show 191 - i = (191 - (i + 1)) + 1 by omega]; exact pk_m1 _
    rw [e1, e2, ix_nI (by omega) (by omega), ix_nI (by omega) (by omega)]
    refine zwp_let.mpr (IH _ ⟨fun k i' j hk => ?_, h2, fun j hj1 hj2 => ?_, fun j hj => ?_⟩)
    · rw [uI_1, if_neg (by omega)]; exact h1 k i' j hk
    · rw [uI_1]
      by_cases e : j = 191 - i
      · rw [if_pos ⟨rfl, rfl, e⟩, h4 _ (by omega), e]
        congr 1
      · rw [if_neg (by omega)]
        exact h3 j (by omega) hj2
    · rw [uI_1, if_neg (by omega)]
      exact h4 j (by omega)
  · rintro f σ' ⟨h1, h2, h3, h4⟩
    rw [k_X11_quarter_211, if_neg (by decide)]
    exact hc σ' h1 h2 (fun j hj1 hj2 => h3 j (by omega) hj2)
theorem x11_quarter (hE : qeL E = qlaw cl) {D : qD} {σ : zH} (hC : rMC σ w E) (hL : rML σ r cl) (hS : rMS W σ E D) (hO : qOK E D) (hn : (D 7 0).toInt ≤ 20000) :
    zwp (d_X11_quarter σ (nI r)) (fun σ' => zsm FM σ σ' ∧ rMS W σ' E (qqu E D) ∧ qOK E (qqu E D) ∧ (∀ j, j ≠ 4 → j ≠ 5 → j ≠ 6 → j ≠ 7 → j ≠ 9 → j ≠ 10 → σ'.1 42 0 j = σ.1 42 0 j) ∧ mst σ σ' (σ.1 42 0 3) (qmen E (qqu E D)) (D 7 0) (qmask (qup (qqu E D)) (qeN E))) := by
  have hn12 := hC.1
  have h0 : rMQ σ W E D σ := ⟨zsm.rf, hS, hO, fun _ _ _ _ => rfl, fun _ => rfl⟩
  unfold d_X11_quarter
  rw [x11_upSet hC hS]
  simp only [Option.bind_some]
  refine zwp_to (x11_lieDown hC hL hE h0) (fun σ2 h2 => ?_)
  rw [nI_c0]
  refine zwp_for (fun f i (σ' : zH) => k_X11_quarter_12 j_X11_quarter_42 f σ' (nI r) (qmask (qup D) (qeN E)) (nI i)) (fun i σ' => rMQ σ W E (qfor (fun c D' => if D 0 c = 0 then D' else qwake1 E c D') i (qq1 E D)) σ') _ 0 (qeN E) (by omega) (by omega) ?_ ?_ σ2 (by rw [qfor_0]; exact h2)
  · intro f i σ' hi hI IH
    generalize hD : qfor (fun c D' => if D 0 c = 0 then D' else qwake1 E c D') i (qq1 E D) = D' at hI
    rw [k_X11_quarter_12, (hI.C hC).2.1, if_pos (nI_lt hi (by omega)), has_eq _ _ (by omega), bt_mask _ _ (by omega) _ (by omega), decide_eq_true hi, Bool.true_and]
    simp only [Option.bind_some]
    rw [nI_1]
    refine zwp_if (fun e1 => ?_) (fun e1 => ?_)
    · rw [b2i_0] at e1
      have ha : ¬ D 0 i = 0 := by unfold qup at e1; simpa using e1
      refine zwp_to (x11_wakes hC hL hE hI hi) (fun σ3 h3 => IH σ3 ?_)
      rw [qfor, hD, if_neg ha]
      exact h3
    · rw [b2i_0, Bool.not_eq_false] at e1
      have ha : D 0 i = 0 := by unfold qup at e1; simpa using e1
      refine IH σ' ?_
      rw [qfor, hD, if_pos ha]
      exact hI
  · intro f σ3 hI
    rw [k_X11_quarter_12, (hI.C hC).2.1, if_neg (nI_nlt (Nat.le_refl _) (by omega))]
    unfold j_X11_quarter_42
    refine zwp_to (x11_snores hC hI) (fun σ4 h4 => ?_)
    rw [nI_c0]
    refine zwp_for (fun f i (σ' : zH) => k_X11_quarter_48 j_X11_quarter_146 f σ' (nI i)) (fun i σ' => rMQ σ W E (qfor qtire1 i (qq3 E D)) σ') _ 0 (qeN E) (by omega) (by omega) ?_ ?_ σ4 (by rw [qfor_0]; exact h4)
    · intro f i σ' hi hI IH
      generalize hD : qfor qtire1 i (qq3 E D) = D' at hI
      have h01 := (hI.2.2.1.1 i hi).1
      rw [k_X11_quarter_48, (hI.C hC).2.1, if_pos (nI_lt hi (by omega)), ix_nI (by omega) (by omega), ix_nI (by omega) (by omega), show σ'.1 62 0 i = D' 0 i from hI.2.1.2.2.2 0 i (by omega) hi, show σ'.1 63 0 i = D' 1 i from hI.2.1.2.2.2 1 i (by omega) hi]
      have hgo : ∀ t, t = D' 1 i + (if D' 0 i = 0 then 1 else -2) → ∀ a, a = qclamp t → zwp (j_X11_quarter_113 (k_X11_quarter_48 j_X11_quarter_146 f) σ' (nI i) (nI i) a) (fun σ' => zsm FM σ σ' ∧ rMS W σ' E (qqu E D) ∧ qOK E (qqu E D) ∧ (∀ j, j ≠ 4 → j ≠ 5 → j ≠ 6 → j ≠ 7 → j ≠ 9 → j ≠ 10 → σ'.1 42 0 j = σ.1 42 0 j) ∧ mst σ σ' (σ.1 42 0 3) (qmen E (qqu E D)) (D 7 0) (qmask (qup (qqu E D)) (qeN E))) := fun t ht a ha => by
        unfold j_X11_quarter_113
        rw [ix_nI (by omega) (by omega)]
        refine zwp_let.mpr ?_
        rw [ix_nI (by omega) (by omega), ix_nI (by omega) (by omega)]
        have e64 : (uI σ' 63 0 i a).1 64 0 i = D' 2 i := by
          have : σ'.1 64 0 i = D' 2 i := hI.2.1.2.2.2 2 i (by omega) hi
          simpa [uI_1] using this
        rw [e64]
        unfold j_X11_quarter_138
        rw [nI_1]
        refine zwp_if (fun e => ?_) (fun e => ?_)
        · rw [ix_nI (by omega) (by omega)]
          refine zwp_let.mpr (IH _ ?_)
          rw [qfor, hD]
          exact hI.tire hi (by rw [ha, ht]) (by rw [if_pos e])
        · rw [ix_nI (by omega) (by omega)]
          refine zwp_let.mpr (IH _ ?_)
          rw [qfor, hD]
          exact hI.tire hi (by rw [ha, ht]) (by rw [if_neg e])
      have hgo2 : ∀ x, x = (if D' 0 i = 0 then 1 else -2) → zwp (j_X11_quarter_80 (k_X11_quarter_48 j_X11_quarter_146 f) σ' (nI i) (D' 1 i) x) (fun σ' => zsm FM σ σ' ∧ rMS W σ' E (qqu E D) ∧ qOK E (qqu E D) ∧ (∀ j, j ≠ 4 → j ≠ 5 → j ≠ 6 → j ≠ 7 → j ≠ 9 → j ≠ 10 → σ'.1 42 0 j = σ.1 42 0 j) ∧ mst σ σ' (σ.1 42 0 3) (qmen E (qqu E D)) (D 7 0) (qmask (qup (qqu E D)) (qeN E))) := fun x hx => by
        unfold j_X11_quarter_80
        refine zwp_if (fun e => hgo (D' 1 i + x) (by rw [hx]) _ ?_) (fun e => zwp_if (fun e2 => hgo (D' 1 i + x) (by rw [hx]) _ ?_) (fun e2 => hgo (D' 1 i + x) (by rw [hx]) _ ?_))
        · unfold qclamp; rw [if_pos e]
        · unfold qclamp; rw [if_neg e, if_pos e2]
        · unfold qclamp; rw [if_neg e, if_neg e2]
      refine zwp_if (fun e => hgo2 _ ?_) (fun e => hgo2 _ ?_)
      · rw [if_neg (by rw [e]; decide)]
      · rw [if_pos (h01.resolve_right e)]
    · intro f σ5 hI
      rw [k_X11_quarter_48, (hI.C hC).2.1, if_neg (nI_nlt (Nat.le_refl _) (by omega))]
      have hI : rMQ σ W E (qq4 E D) σ5 := hI
      have hC5 := hI.C hC
      unfold j_X11_quarter_146
      rw [x11_upSet hC5 hI.2.1]
      simp only [Option.bind_some]
      rw [x11_menUp hC5]
      simp only [Option.bind_some]
      obtain ⟨hz, hS5, hO5, hT, hG⟩ := hI
      have t3 := hT 3 (by omega) (by omega) (by omega)
      have t5 := hT 5 (by omega) (by omega) (by omega)
      have t6 := hT 6 (by omega) (by omega) (by omega)
      have t9 := hT 9 (by omega) (by omega) (by omega)
      have hup : qmask (qup (qqu E D)) (qeN E) = qmask (qup (qq4 E D)) (qeN E) := qmask_cong (fun i _ => by unfold qup; rw [qqu_ne _ _ (by omega)])
      -- behind the counts: the log
      have hlog : ∀ σ6 : zH, zsm FM σ σ6 → (∀ k i j, ¬ (k = 42 ∧ i = 0 ∧ (j = 5 ∨ j = 6)) → σ6.1 k i j = σ5.1 k i j) →
          σ6.1 42 0 5 = (if qmen E (qq4 E D) < σ.1 42 0 3 then σ.1 42 0 5 + 1 else σ.1 42 0 5) → σ6.1 42 0 6 = (if qmen E (qq4 E D) < σ.1 42 0 3 then (if σ.1 42 0 5 = 0 then D 7 0 else σ.1 42 0 6) else σ.1 42 0 6) →
          zwp (j_X11_quarter_207 σ6 (qmask (qup (qq4 E D)) (qeN E))) (fun σ' => zsm FM σ σ' ∧ rMS W σ' E (qqu E D) ∧ qOK E (qqu E D) ∧ (∀ j, j ≠ 4 → j ≠ 5 → j ≠ 6 → j ≠ 7 → j ≠ 9 → j ≠ 10 → σ'.1 42 0 j = σ.1 42 0 j) ∧ mst σ σ' (σ.1 42 0 3) (qmen E (qqu E D)) (D 7 0) (qmask (qup (qqu E D)) (qeN E))) := fun σ6 g1 g2 g5 g6 => by
        unfold j_X11_quarter_207
        refine x11_shift (fun _ => trivial) _ _ (fun σ7 k1 k2 k3 => ?_)
        have hz7 : zsm FM σ σ7 := fun k i hk => ⟨funext fun j => by rw [k1 k i j (fun q => hk (by rw [q.1]; exact Or.inr (Or.inl (by omega)))), (g1 k i hk).1], by rw [k2, (g1 k i hk).2]⟩
        have hk7 : ∀ j, j ≠ 5 → j ≠ 6 → σ7.1 42 0 j = σ5.1 42 0 j := fun j h5 h6 => by rw [k1 _ _ _ (by omega), g2 _ _ _ (by omega)]
        unfold j_X11_quarter_235
        refine zwp_let.mpr ?_
        have e9 : (uI σ7 66 0 0 (qmask (qup (qq4 E D)) (qeN E))).1 42 0 9 = σ.1 42 0 9 := by
          rw [uI_1, if_neg (by omega), hk7 9 (by omega) (by omega), t9]
        rw [e9]
        have hfin : ∀ x, x = (if σ.1 42 0 9 < 192 then 1 else 0) → zwp (j_X11_quarter_268 (uI σ7 66 0 0 (qmask (qup (qq4 E D)) (qeN E))) (9 : Int32) (σ.1 42 0 9) x) (fun σ' => zsm FM σ σ' ∧ rMS W σ' E (qqu E D) ∧ qOK E (qqu E D) ∧ (∀ j, j ≠ 4 → j ≠ 5 → j ≠ 6 → j ≠ 7 → j ≠ 9 → j ≠ 10 → σ'.1 42 0 j = σ.1 42 0 j) ∧ mst σ σ' (σ.1 42 0 3) (qmen E (qqu E D)) (D 7 0) (qmask (qup (qqu E D)) (qeN E))) := fun x hx => by
          unfold j_X11_quarter_268
          rw [show (9 : Int32) = nI 9 from rfl, ix_nI (by omega) (by omega)]
          simp only [zlet]
          refine zwp_some.mpr ⟨((hz7.uI (Or.inr (Or.inl (by omega))) _ _).uI (Or.inl rfl) _ _).uI (Or.inl rfl) _ _, ⟨?_, ?_, ?_, ?_⟩, hO5.quarter hn, ?_, ?_, ?_, ?_, ?_⟩
          · have := hS5.1
            rw [qq4_70] at this
            rw [qqu_70, ← this]
            simp [uI_1, hk7 4 (by omega) (by omega)]
          · rw [qqu_ne _ _ (by omega), ← hS5.2.1]
            simp [uI_1, hk7 10 (by omega) (by omega)]
          · rw [qqu_ne _ _ (by omega), ← hS5.2.2.1]
            simp [uI_1, hk7 7 (by omega) (by omega)]
          · intro r i hr hi
            have hm := mrow_lt hr
            rw [qqu_ne _ _ (by omega), ← hS5.2.2.2 r i hr hi]
            simp only [uI_1]
            rw [if_neg (by omega), if_neg (by omega), if_neg (by omega), k1 _ _ _ (by omega), g2 _ _ _ (by omega)]
          · intro j h4 h5 h6 h7 h9 h10
            simp only [uI_1]
            rw [if_neg (by omega), if_neg (by omega), if_neg (by omega), hk7 j h5 h6, hT j h4 h7 h10]
          · simp only [uI_1]
            rw [if_neg (by omega), if_neg (by omega), if_neg (by omega), k1 _ _ _ (by omega), g5, qqu_men]
          · simp only [uI_1]
            rw [if_neg (by omega), if_neg (by omega), if_neg (by omega), k1 _ _ _ (by omega), g6, qqu_men]
          · simp only [uI_1]
            rw [if_neg (by omega), if_pos (by simp), hx]
          · intro j hj
            simp only [uI_1]
            rw [if_neg (by omega), if_neg (by omega)]
            by_cases e0 : j = 0
            · rw [if_pos (by simp [e0]), if_pos e0, hup]
            · rw [if_neg (by omega), if_neg e0, k3 j (by omega) hj, g2 _ _ _ (by omega), hG]
        refine zwp_if (fun e => hfin _ (by rw [if_pos e])) (fun e => hfin _ (by rw [if_neg e]))
      rw [t3, t5]
      refine zwp_if (fun e => ?_) (fun e => ?_)
      · have hgo : ∀ x, x = (if σ.1 42 0 5 = 0 then D 7 0 else σ.1 42 0 6) → zwp (j_X11_quarter_196 σ5 (qmask (qup (qq4 E D)) (qeN E)) (6 : Int32) x) (fun σ' => zsm FM σ σ' ∧ rMS W σ' E (qqu E D) ∧ qOK E (qqu E D) ∧ (∀ j, j ≠ 4 → j ≠ 5 → j ≠ 6 → j ≠ 7 → j ≠ 9 → j ≠ 10 → σ'.1 42 0 j = σ.1 42 0 j) ∧ mst σ σ' (σ.1 42 0 3) (qmen E (qqu E D)) (D 7 0) (qmask (qup (qqu E D)) (qeN E))) := fun x hx => by
          unfold j_X11_quarter_196
          rw [show (6 : Int32) = nI 6 from rfl, ix_nI (by omega) (by omega)]
          simp only [zlet]
          refine hlog _ ((hz.uI (Or.inl rfl) _ _).uI (Or.inl rfl) _ _) (fun k i j hk => ?_) ?_ ?_
          · simp only [uI_1]
            rw [if_neg (by omega), if_neg (by omega)]
          · rw [if_pos e]
            simp [uI_1, t5]
          · rw [if_pos e, ← hx]
            simp [uI_1]
        refine zwp_if (fun e2 => hgo _ ?_) (fun e2 => hgo _ ?_)
        · have := hS5.1
          rw [qq4_70] at this
          rw [if_pos e2, this]
        · rw [if_neg e2, t6]
      · exact hlog σ5 hz (fun _ _ _ _ => rfl) (by rw [if_neg e, t5]) (by rw [if_neg e, t6])
end
