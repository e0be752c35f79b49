/-! CALLS: turned, the class -/
theorem rP.wf {W w : Int32} {σ : zH} {s : Nat} {E : qE} {D : qD} (h : rP W σ s E w D) (f : Int32) : rP W (uI σ 8 s 3 f) s (qwf E f) w D := by
  obtain ⟨hC, ⟨s1, s2, s3, s4, s5, s6, s7, s8⟩, hO, hw⟩ := h
  have u : ∀ k i j, ¬ (k = 8 ∧ i = s ∧ j = 3) → (uI σ 8 s 3 f).1 k i j = σ.1 k i j := fun k i j hk => by rw [uI_1, if_neg hk]
  have z : zsm (F8 s) σ (uI σ 8 s 3 f) := zsm.rf.uI (Or.inl ⟨rfl, rfl⟩) _ _
  refine ⟨(hC.mv (fun k hk => (z k (s + 1) (by unfold F8; omega)).1)).wf f, ⟨by rw [u 8 s 1 (by omega)]; exact s1, by rw [u 8 s 2 (by omega)]; exact s2, by rw [uI_1, if_pos ⟨rfl, rfl, rfl⟩]; rfl, by rw [u 8 s 4 (by omega)]; exact s4, by rw [u 8 s 5 (by omega)]; exact s5, by rw [u 8 s 15 (by omega)]; exact s6, fun r i hr h1 h2 hi => ?_, fun i hi => ?_⟩, hO, by rw [u 0 (s + 1) 12 (by omega)]; exact hw⟩
  · rw [u _ _ _ (by omega)]; exact s7 r i hr h1 h2 hi
  · rw [u _ _ _ (by omega)]; exact s8 i hi
theorem x8_pass0 {σ : zH} {s l : Nat} {x : Int32} (h : ¬ 0 < x) : d_X8_passQuarters σ s l x = some σ := by
  unfold d_X8_passQuarters
  rw [show zN = 4095 + 1 from zN_eq, k_X8_passQuarters_2, if_neg h]
/-- a feast of l quarters after b quarters -/
def tE (E : qE) (D : qD) (b l : Nat) : qE := qwf E (qrun E b D 7 0 + nI l)
def tD (E : qE) (D : qD) (b l k : Nat) : qD := qrun (tE E D b l) (k - b) (qrun E (min k b) D)
def tC (E : qE) (wt : Int32) (D : qD) (b l k : Nat) : Int32 × Int32 × Int32 := qstn (tE E D b l) wt (k - b) (qrun E (min k b) D) (qstn E wt (min k b) D (0, -2, qall E))
def tok (E : qE) (D : qD) (set : Int32) (T b l : Nat) : Bool := decide (qmask (qdown (tD E D b l T)) (qeN E) = set)
def tfa (E : qE) (wt : Int32) (D : qD) (T b l : Nat) : Int32 := (tC E wt D b l T).1
/-- how far the search has come: nothing found below best but it -/
def tst (ok : Nat → Nat → Bool) (fa : Nat → Nat → Int32) (σ : zH) (b l best : Nat) : Prop :=
  (∀ b' l', 1 ≤ l' → l' < best → b' < 48 → (b' < b ∨ (b' = b ∧ l' < l)) → ok b' l' = false) ∧
  ((best = 17 ∧ σ.1 22 0 0 = -2 ∧ σ.1 22 0 1 = -2 ∧ σ.1 22 0 2 = -2) ∨ ∃ b0, b0 < 48 ∧ 1 ≤ best ∧ best ≤ 16 ∧ ok b0 best = true ∧ (∀ b', b' < b0 → ok b' best = false) ∧ σ.1 22 0 0 = nI b0 ∧ σ.1 22 0 1 = nI best ∧ σ.1 22 0 2 = fa b0 best)
theorem tst.mv {ok : Nat → Nat → Bool} {fa : Nat → Nat → Int32} {σ σ' : zH} {b l best : Nat} (h : tst ok fa σ b l best) (e : σ'.1 22 0 = σ.1 22 0) : tst ok fa σ' b l best := by
  unfold tst at h ⊢
  rw [e]; exact h
theorem qmen_wf (E : qE) (f : Int32) (D : qD) : qmen (qwf E f) D = qmen E D := rfl
theorem c_turn1 {τ : zH} {r : Nat} {W wt : Int32} {E : qE} {D : qD} {cl : List (Bool × List qop)} (hE : qeL E = qlaw cl) (hL : rL τ r cl) (T b l : Nat) (hT : T ≤ 96) (hb : b < 48)
    (h : rP W τ 6 E wt (qrun E (min T b) D)) (hc : cst τ 6 = qstn E wt (min T b) D (0, -2, qall E)) (hd : 0 ≤ (D 7 0).toInt ∧ (D 7 0).toInt ≤ 9999) :
    ∃ τ1 τ3, d_X8_copyFrom τ 5 6 = some τ1 ∧ d_X8_passQuarters (uI τ1 8 5 3 (τ1.1 8 5 1 + nI l)) 5 r (nI T - nI b) = some τ3 ∧ zsm (Fs 5) τ τ3 ∧ τ3.1 8 5 4 = qmask (qdown (tD E D b l T)) (qeN E) ∧ τ3.1 8 5 12 = tfa E wt D T b l := by
  obtain ⟨τ1, f1, z1, p1, q1⟩ := x8_copyP (s := 5) (t := 6) (by omega) h
  have e1 : τ1.1 8 5 1 = qrun E (min T b) D 7 0 := p1.2.1.1
  have p2 := p1.wf (τ1.1 8 5 1 + nI l)
  have z2 : zsm (Fs 5) τ (uI τ1 8 5 3 (τ1.1 8 5 1 + nI l)) := z1.uI (Or.inl (Or.inl ⟨rfl, rfl⟩)) _ _
  have q2 : cst (uI τ1 8 5 3 (τ1.1 8 5 1 + nI l)) 5 = qstn E wt (min T b) D (0, -2, qall E) := by
    rw [← hc, ← q1]
    unfold cst
    simp [uI_1]
  generalize hυ : uI τ1 8 5 3 (τ1.1 8 5 1 + nI l) = υ at p2 z2 q2
  by_cases hbT : b < T
  · have em : min T b = b := Nat.min_eq_right (by omega)
    have ht := qrun_70 E D b (by omega) (by omega)
    rw [em] at p2 q2 e1
    obtain ⟨τ3, f3, z3, p3, q3⟩ := x8_pass (cl := cl) (show qeL (qwf E (τ1.1 8 5 1 + nI l)) = qlaw cl from hE) (hL.F z2) p2 (T - b) (by omega) (by omega)
    rw [e1] at p3 q3
    refine ⟨τ1, τ3, f1, by rw [hυ, pk_sub (by omega)]; exact f3, z2.tr (z3.mono (fun k i q => Or.inl q)), ?_, ?_⟩
    · rw [p3.2.1.2.2.2.1]
      unfold tD
      rw [em]
      rfl
    · unfold tfa tC
      rw [em, ← q2]
      exact congrArg (fun a => a.1) q3
  · have em : min T b = T := Nat.min_eq_left (by omega)
    refine ⟨τ1, υ, f1, ?_, z2, ?_, ?_⟩
    · rw [hυ]
      refine x8_pass0 (fun hlt => ?_)
      rw [fa_lt, i32_0, fb_subI (by rw [nI_toInt (by omega), nI_toInt (by omega)]; omega) (by rw [nI_toInt (by omega), nI_toInt (by omega)]; omega), nI_toInt (by omega), nI_toInt (by omega)] at hlt
      omega
    · rw [p2.2.1.2.2.2.1]
      unfold tD
      rw [Nat.sub_eq_zero_of_le (by omega), qrun]
      rfl
    · unfold tfa tC
      rw [Nat.sub_eq_zero_of_le (by omega), qstn, ← q2]
      rfl
def tin (σc : zH) (E : qE) (wt : Int32) (D : qD) (set : Int32) (T b : Nat) (σ : zH) (best l : Nat) : Prop :=
  zsm Gc σc σ ∧ rP (-(D 7 2)) σ 6 E wt (qrun E (min T b) D) ∧ cst σ 6 = qstn E wt (min T b) D (0, -2, qall E) ∧ best ≤ 17 ∧ 1 ≤ l ∧ l ≤ 17 ∧ tst (tok E D set T) (tfa E wt D T) σ b l best
theorem c_turned {σc : zH} {r : Nat} {E : qE} {wt : Int32} {D : qD} {cl : List (Bool × List qop)} (hE : qeL E = qlaw cl) (hL : rL σc r cl) (h : rP 0 σc 0 E wt D) (hd : (D 7 0).toInt ≤ 9999) (set : Int32) (T : Nat) (hT : T ≤ 96) :
    zwp (d_X2_findTurn σc r set (nI T)) (fun σ' => zsm Gc σc σ' ∧ ∃ best, tst (tok E D set T) (tfa E wt D T) σ' 48 1 best) := by
  have h00 := h.2.2.1.2.2.1
  have hd2 : 0 ≤ (D 7 0).toInt ∧ (D 7 0).toInt ≤ 9999 := ⟨h00, hd⟩
  unfold d_X2_findTurn
  obtain ⟨σ1, e1, z1, k0, k1, k2⟩ := x2_keep σc (-2) (-2) (-2)
  rw [e1]
  simp only [Option.bind_some]
  have z1c := z22 z1
  obtain ⟨σ2, e2, z2, p2, -⟩ := x8_copyP (s := 6) (t := 0) (by omega) (h.gc z1c)
  rw [e2]
  simp only [Option.bind_some]
  refine zwp_to (x8_beginCounts p2.1 p2.2.1) (fun σ3 h3 => ?_)
  obtain ⟨z3, s3, q3⟩ := h3
  have g6 : ∀ k i, Fs 6 k i → Gc k i := fun k i q => by unfold Fs F8 at q; unfold Gc; omega
  have p3 : rP (-(D 7 2)) σ3 6 E wt D := ⟨p2.1.mv (fun k hk => (z3 k 7 (by unfold F8; omega)).1), s3, p2.2.2.1, by rw [(z3 0 7 (by unfold F8; omega)).1]; exact p2.2.2.2⟩
  have zc3 : zsm Gc σc σ3 := (z1c.tr (z2.mono g6)).tr (z3.mono (fun k i q => g6 k i (Or.inl q)))
  have r3 : σ3.1 22 0 = σ1.1 22 0 := by rw [(z3 22 0 (by unfold F8; omega)).1, (z2 22 0 (by unfold Fs F8; omega)).1]
  rw [show k_X2_findTurn_35 zN σ3 r set (nI T) (17 : Int32) (0 : Int32) = k_X2_findTurn_35 zN σ3 r set (nI T) (nI 17) (nI 0) by rw [nI_0]; rfl]
  refine zwp_for (fun f b (a : zH × Nat) => k_X2_findTurn_35 f a.1 r set (nI T) (nI a.2) (nI b)) (fun b a => zsm Gc σc a.1 ∧ rP (-(D 7 2)) a.1 6 E wt (qrun E (min T b) D) ∧ cst a.1 6 = qstn E wt (min T b) D (0, -2, qall E) ∧ a.2 ≤ 17 ∧ tst (tok E D set T) (tfa E wt D T) a.1 b 1 a.2) _ 0 48 (by omega) (by omega) ?_ ?_ (σ3, 17) ⟨zc3, by rw [Nat.min_zero, qrun]; exact p3, by rw [Nat.min_zero, qstn]; exact q3, Nat.le_refl _, ⟨fun b' l' _ _ _ hh => by omega, Or.inl ⟨rfl, by rw [r3]; exact k0, by rw [r3]; exact k1, by rw [r3]; exact k2⟩⟩⟩
  · rintro f b ⟨τ, best⟩ hb ⟨i1, i2, i3, i4, i5⟩ IH
    dsimp only at i1 i2 i3 i4 i5 ⊢
    rw [k_X2_findTurn_35, if_pos (show nI b < (48 : Int32) from nI_lt (b := 48) hb (by omega))]
    rw [show k_X2_findTurn_45 (j_X2_findTurn_128 (k_X2_findTurn_35 f)) zN τ r set (nI T) (nI best) (nI b) (1 : Int32) = k_X2_findTurn_45 (j_X2_findTurn_128 (k_X2_findTurn_35 f)) zN τ r set (nI T) (nI best) (nI b) (nI 1) by rw [nI_one]]
    refine zwp_whileN (fun f' (a : zH × Nat × Nat) => k_X2_findTurn_45 (j_X2_findTurn_128 (k_X2_findTurn_35 f)) f' a.1 r set (nI T) (nI a.2.1) (nI b) (nI a.2.2)) (fun a => tin σc E wt D set T b a.1 a.2.1 a.2.2) (fun a => 17 - a.2.2) _ ?_ (τ, best, 1) (by show 17 - 1 < 4096; omega) (show tin σc E wt D set T b τ best 1 from ⟨i1, i2, i3, i4, Nat.le_refl _, by omega, i5⟩)
    rintro f' ⟨υ, bst, l⟩ ⟨j1, j2, j3, j4, j5, j6, j7⟩ IH2
    dsimp only at j1 j2 j3 j4 j5 j6 j7 IH2 ⊢
    rw [k_X2_findTurn_45]
    by_cases hl : l < bst
    · rw [if_pos (nI_lt hl (by omega))]
      obtain ⟨υ1, υ3, f1, f3, w3, a4, a12⟩ := c_turn1 hE (hL.gc j1) T b l hT hb j2 j3 hd2
      rw [f1]
      simp only [Option.bind_some]
      refine zwp_let.mpr ?_
      rw [f3]
      simp only [Option.bind_some]
      have w3c : zsm Gc σc υ3 := j1.tr (w3.mono (fun _ _ q => Fs5_Gc q))
      have m6 : rP (-(D 7 2)) υ3 6 E wt (qrun E (min T b) D) := j2.mvF (fun k hk => (w3 k _ (by unfold Fs F8; omega)).1) (fun k hk => (w3 k _ (by unfold Fs F8; omega)).1)
      have c6 : cst υ3 6 = qstn E wt (min T b) D (0, -2, qall E) := by
        rw [← j3]; unfold cst; rw [(w3 8 6 (by unfold Fs F8; omega)).1]
      have r22 : υ3.1 22 0 = υ.1 22 0 := (w3 22 0 (by unfold Fs F8; omega)).1
      have j7' := j7.mv r22
      refine zwp_if (fun e => ?_) (fun e => ?_)
      · have hok : tok E D set T b l = true := decide_eq_true (by rw [← a4]; exact e)
        rw [a12]
        obtain ⟨υ4, f4, z4, g0, g1, g2⟩ := x2_keep υ3 (nI b) (nI l) (tfa E wt D T b l)
        rw [f4]
        simp only [Option.bind_some]
        rw [nI_1]
        have c6' : cst υ4 6 = qstn E wt (min T b) D (0, -2, qall E) := by rw [← c6]; unfold cst; rw [(z4 8 6 (by omega)).1]
        exact IH2 (υ4, l, l + 1) (show tin σc E wt D set T b υ4 l (l + 1) from ⟨w3c.tr (z22 z4), m6.mvF (fun k hk => (z4 k _ (by omega)).1) (fun k hk => (z4 k _ (by omega)).1), c6', by omega, by omega, by omega, ⟨fun b' l' h1 h2 h3 h4 => j7.1 b' l' h1 (by omega) h3 (by omega), Or.inr ⟨b, hb, j5, by omega, hok, fun b' hb' => j7.1 b' l j5 hl (by omega) (Or.inl hb'), g0, g1, g2⟩⟩⟩) (by show 17 - (l + 1) < 17 - l; omega)
      · have hok : tok E D set T b l = false := decide_eq_false (by rw [← a4]; exact e)
        rw [nI_1]
        refine IH2 (υ3, bst, l + 1) (show tin σc E wt D set T b υ3 bst (l + 1) from ⟨w3c, m6, c6, j4, by omega, by omega, ⟨fun b' l' h1 h2 h3 h4 => ?_, j7'.2⟩⟩) (by show 17 - (l + 1) < 17 - l; omega)
        by_cases e2 : b' = b ∧ l' = l
        · rw [e2.1, e2.2]; exact hok
        · exact j7.1 b' l' h1 h2 h3 (by omega)
    · rw [if_neg (nI_nlt (by omega) (by omega))]
      have tb : tst (tok E D set T) (tfa E wt D T) υ (b + 1) 1 bst := ⟨fun b' l' h1 h2 h3 h4 => j7.1 b' l' h1 h2 h3 (by omega), j7.2⟩
      unfold j_X2_findTurn_128
      by_cases hbT : b < T
      · have em : min T b = b := Nat.min_eq_right (by omega)
        have em2 : min T (b + 1) = b + 1 := Nat.min_eq_right (by omega)
        have ht := qrun_70 E D b (by omega) (by omega)
        rw [if_pos (nI_lt hbT (by omega))]
        rw [em] at j2 j3
        obtain ⟨υ1, f1, w1, p1, q1⟩ := x8_pass hE (hL.gc j1) j2 1 (by omega) (by omega)
        rw [nI_one] at f1
        rw [f1]
        simp only [Option.bind_some]
        rw [nI_1]
        refine IH (υ1, bst) ⟨j1.tr (w1.mono (fun k i q => g6 k i (Or.inl q))), by rw [em2]; exact p1, by rw [em2, q1, j3]; rfl, j4, tb.mv (w1 22 0 (by unfold F8; omega)).1⟩
      · have em : min T (b + 1) = min T b := by rw [Nat.min_eq_left (by omega), Nat.min_eq_left (by omega)]
        rw [if_neg (nI_nlt (by omega) (by omega)), nI_1]
        exact IH (υ, bst) ⟨j1, by rw [em]; exact j2, by rw [em]; exact j3, j4, tb⟩
  · rintro f ⟨τ, best⟩ ⟨i1, i2, i3, i4, i5⟩
    dsimp only at i1 i2 i3 i4 i5 ⊢
    rw [k_X2_findTurn_35, if_neg (show ¬ nI 48 < (48 : Int32) from nI_nlt (b := 48) (by omega) (by omega))]
    exact zwp_some.mpr ⟨i1, best, i5⟩
