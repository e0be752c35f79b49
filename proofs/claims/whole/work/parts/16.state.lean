/-! THE CLASS: State, what changes it -/
def F8 (s : Nat) (k i : Nat) : Prop := (k = 8 ∧ i = s) ∨ (31 ≤ k ∧ k ≤ 36 ∧ i = s) ∨ k = 28
theorem qchg_ne {D : qD} {c i : Nat} {is why b : Int32} (r : Nat) (h : i ≠ c) : qchg D c is why b r i = D r i := by unfold qchg; rw [if_neg h]
theorem qchg_7 {D : qD} {c : Nat} {is why b : Int32} (i : Nat) : qchg D c is why b 7 i = D 7 i := by
  unfold qchg
  split <;> rfl
theorem qchg_1 {D : qD} {c : Nat} {is why b : Int32} (i : Nat) : qchg D c is why b 1 i = D 1 i := by
  unfold qchg
  split <;> rfl
theorem qchg_0 {D : qD} {c : Nat} {is why b : Int32} : qchg D c is why b 0 c = is := by unfold qchg; rw [if_pos rfl]; rfl
theorem qchg_2 {D : qD} {c : Nat} {is why b : Int32} : qchg D c is why b 2 c = 0 := by unfold qchg; rw [if_pos rfl]; rfl
theorem qchg_3 {D : qD} {c : Nat} {is why b : Int32} : qchg D c is why b 3 c = if is = 0 then D 7 0 else D 3 c := by unfold qchg; rw [if_pos rfl]; rfl
theorem qchg_4 {D : qD} {c : Nat} {is why b : Int32} : qchg D c is why b 4 c = why := by unfold qchg; rw [if_pos rfl]; rfl
theorem qchg_5 {D : qD} {c : Nat} {is why b : Int32} : qchg D c is why b 5 c = D 7 0 := by unfold qchg; rw [if_pos rfl]; rfl
theorem qchg_6 {D : qD} {c : Nat} {is why b : Int32} : qchg D c is why b 6 c = b := by unfold qchg; rw [if_pos rfl]; rfl
theorem qmen_chg {E : qE} {D D' : qD} {c : Nat} (hc : c < qeN E) (h : ∀ i, i ≠ c → D' 0 i = D 0 i) : qmen E D' = qmen E D - (if D 0 c = 0 then qeR E 0 c else 0) + (if D' 0 c = 0 then qeR E 0 c else 0) := by
  unfold qmen
  rw [← qsum_upd (f := fun i => if D 0 i = 0 then qeR E 0 i else 0) _ hc]
  refine qsum_cong (fun i _ => ?_)
  by_cases e : i = c
  · rw [e, if_pos rfl]
  · rw [if_neg e, h i e]
theorem qmask_set {p p' : Nat → Bool} {n c : Nat} (hn : n ≤ 12) (hc : c < n) (h : ∀ i, i ≠ c → p' i = p i) (hp : p' c = true) : qmask p n ||| q1 c = qmask p' n := by
  refine b_ext (fun i hi => ?_)
  rw [b_or, bt_mask p n (by omega) i hi, bt_mask p' n (by omega) i hi, bt_q1 (by omega) hi]
  by_cases e : i = c
  · rw [e, hp]; simp [hc]
  · rw [h i e]; simp [e]
theorem qnot (x : Int32) : x ^^^ (-1) = ~~~x := by simp
theorem qmask_clr {p p' : Nat → Bool} {n c : Nat} (hn : n ≤ 12) (hc : c < n) (h : ∀ i, i ≠ c → p' i = p i) (hp : p' c = false) : qmask p n &&& (q1 c ^^^ (-1)) = qmask p' n := by
  refine b_ext (fun i hi => ?_)
  rw [b_and, bt_not _ hi, bt_mask p n (by omega) i hi, bt_mask p' n (by omega) i hi, bt_q1 (by omega) hi]
  by_cases e : i = c
  · rw [e, hp]; simp
  · rw [h i e]; simp [e]
theorem qOK.chg {E : qE} {D : qD} {c : Nat} {is why b : Int32} (h : qOK E D) (hi : is = 0 ∨ is = 1) : qOK E (qchg D c is why b) := by
  refine ⟨fun i hin => ?_, by rw [qchg_7]; exact h.2.1, by rw [qchg_7]; exact h.2.2.1, h.2.2.2⟩
  by_cases e : i = c
  · subst e
    rw [qchg_0, qchg_1, qchg_2]
    exact ⟨hi, (h.1 i hin).2.1, (h.1 i hin).2.2.1, by decide, by decide⟩
  · rw [qchg_ne _ e, qchg_ne _ e, qchg_ne _ e]
    exact h.1 i hin
/-- in a quarter: what stands outside, the picture, the bell, the counts of fails -/
def rQb (σ0 : zH) (W : Int32) (s : Nat) (E : qE) (D : qD) (b : Int32) (σ : zH) : Prop := zsm (F8 s) σ0 σ ∧ rS W σ s E D ∧ qOK E D ∧ σ.1 8 s 16 = b ∧ (∀ j, 12 ≤ j → j ≤ 14 → σ.1 8 s j = σ0.1 8 s j)
def rQ (σ0 : zH) (W : Int32) (s : Nat) (E : qE) (D : qD) (σ : zH) : Prop := rQb σ0 W s E D (qeB E (qrem (D 7 0))) σ
theorem rQb.C {σ0 : zH} {W b : Int32} {s : Nat} {E : qE} {D : qD} {σ : zH} (h : rQb σ0 W s E D b σ) (hC : rC σ0 (s + 1) E) : rC σ (s + 1) E :=
  hC.mv (fun k hk => (h.1 k (s + 1) (by unfold F8; omega)).1)
theorem rQ.C {σ0 : zH} {W : Int32} {s : Nat} {E : qE} {D : qD} {σ : zH} (h : rQ σ0 W s E D σ) (hC : rC σ0 (s + 1) E) : rC σ (s + 1) E :=
  hC.mv (fun k hk => (h.1 k (s + 1) (by unfold F8; omega)).1)
section
variable {σ0 : zH} {W : Int32} {s : Nat} {E : qE} {D : qD} {σ : zH}
theorem x8_lieDown_b {B : Int32} (hC : rC σ0 (s + 1) E) (h : rQb σ0 W s E D B σ) {c : Nat} (hc : c < qeN E) (h0 : D 0 c = 0) (why b : Int32) : zwp (d_X8_lieDown σ s (nI c) why b) (rQb σ0 W s E (qchg D c 1 why b) B) := by
  have hC1 := h.C hC
  have hn := hC.1
  obtain ⟨hz, hS, hO, hb, hT⟩ := h
  unfold d_X8_lieDown d_X8_keepWhy
  simp only [zlet, ix_nI (show c < 12 by omega) (show 12 < 2 ^ 31 by omega), Nat.add_zero, Option.bind_some]
  refine zwp_some.mpr ⟨?_, ?_, hO.chg (Or.inr rfl), ?_, ?_⟩
  · exact (((((hz.uI (Or.inl ⟨rfl, rfl⟩) _ _).uI (Or.inl ⟨rfl, rfl⟩) _ _).uI (Or.inr (Or.inl ⟨by omega, by omega, rfl⟩)) _ _).uI (Or.inr (Or.inl ⟨by omega, by omega, rfl⟩)) _ _).uI (Or.inr (Or.inl ⟨by omega, by omega, rfl⟩)) _ _).uI (Or.inr (Or.inl ⟨by omega, by omega, rfl⟩)) _ _
  · refine ⟨?_, ?_, ?_, ?_, ?_, ?_, ?_, ?_⟩
    · rw [qchg_7]; simpa [uI_1] using hS.1
    · rw [qchg_7]; simpa [uI_1] using hS.2.1
    · simpa [uI_1] using hS.2.2.1
    · simp only [uI_1]
      simp
      rw [hS.2.2.2.1]
      exact qmask_set hC.1 hc (fun i hi => by unfold qdown; rw [qchg_ne _ hi]) (by unfold qdown; rw [qchg_0]; rfl)
    · simp only [uI_1]
      simp
      rw [hS.2.2.2.2.1, qmen_chg (D := D) hc (fun i hi => qchg_ne 0 hi), qchg_0, if_pos h0, if_neg (by decide), Int32.add_zero]
      have := hC1.2.2.1 0 c (by omega) hc
      simp at this
      rw [this]
    · rw [qchg_7]; simpa [uI_1] using hS.2.2.2.2.2.1
    · intro r i hr h1 h3 hi
      have hb := hS.2.2.2.2.2.2.1 r i hr h1 h3 hi
      by_cases e : i = c
      · subst e
        have : r = 1 ∨ r = 2 ∨ r = 4 ∨ r = 5 ∨ r = 6 := by omega
        rcases this with rfl | rfl | rfl | rfl | rfl
        · rw [qchg_1]; simpa [uI_1] using hb
        · rw [qchg_2]; simp [uI_1]
        · rw [qchg_4]; simp [uI_1]
        · rw [qchg_5]; simpa [uI_1] using hS.1
        · rw [qchg_6]; simp [uI_1]
      · rw [qchg_ne _ e, ← hb]
        simp [uI_1, e, show 30 + r ≠ 8 by omega]
    · intro i hi
      have hb := hS.2.2.2.2.2.2.2 i hi
      by_cases e : i = c
      · subst e
        rw [qchg_3, if_neg (by decide)]
        simpa [uI_1] using hb
      · rw [qchg_ne _ e]
        simpa [uI_1] using hb
  · simpa [uI_1] using hb
  · intro j h1 h2
    rw [← hT j h1 h2]
    simp [uI_1, show j ≠ 4 by omega, show j ≠ 5 by omega]
theorem x8_getUp_b {B : Int32} (hC : rC σ0 (s + 1) E) (h : rQb σ0 W s E D B σ) {c : Nat} (hc : c < qeN E) (h0 : D 0 c ≠ 0) (why b : Int32) : zwp (d_X8_getUp σ s (nI c) why b) (rQb σ0 W s E (qchg D c 0 why b) B) := by
  have hC1 := h.C hC
  have hn := hC.1
  obtain ⟨hz, hS, hO, hb, hT⟩ := h
  unfold d_X8_getUp d_X8_keepWhy
  simp only [zlet, ix_nI (show c < 12 by omega) (show 12 < 2 ^ 31 by omega), Nat.add_zero, Option.bind_some]
  refine zwp_some.mpr ⟨?_, ?_, hO.chg (Or.inl rfl), ?_, ?_⟩
  · exact ((((((hz.uI (Or.inl ⟨rfl, rfl⟩) _ _).uI (Or.inl ⟨rfl, rfl⟩) _ _).uI (Or.inr (Or.inl ⟨by omega, by omega, rfl⟩)) _ _).uI (Or.inr (Or.inl ⟨by omega, by omega, rfl⟩)) _ _).uI (Or.inr (Or.inl ⟨by omega, by omega, rfl⟩)) _ _).uI (Or.inr (Or.inl ⟨by omega, by omega, rfl⟩)) _ _).uI (Or.inr (Or.inl ⟨by omega, by omega, rfl⟩)) _ _
  · refine ⟨?_, ?_, ?_, ?_, ?_, ?_, ?_, ?_⟩
    · rw [qchg_7]; simpa [uI_1] using hS.1
    · rw [qchg_7]; simpa [uI_1] using hS.2.1
    · simpa [uI_1] using hS.2.2.1
    · simp only [uI_1]
      simp
      rw [hS.2.2.2.1, ← qnot]
      exact qmask_clr hC.1 hc (fun i hi => by unfold qdown; rw [qchg_ne _ hi]) (by unfold qdown; rw [qchg_0]; rfl)
    · simp only [uI_1]
      simp
      rw [hS.2.2.2.2.1, qmen_chg (D := D) hc (fun i hi => qchg_ne 0 hi), qchg_0, if_neg h0, if_pos rfl, Int32.sub_zero]
      have := hC1.2.2.1 0 c (by omega) hc
      simp at this
      rw [this]
    · rw [qchg_7]; simpa [uI_1] using hS.2.2.2.2.2.1
    · intro r i hr h1 h3 hi
      have hb := hS.2.2.2.2.2.2.1 r i hr h1 h3 hi
      by_cases e : i = c
      · subst e
        have : r = 1 ∨ r = 2 ∨ r = 4 ∨ r = 5 ∨ r = 6 := by omega
        rcases this with rfl | rfl | rfl | rfl | rfl
        · rw [qchg_1]; simpa [uI_1] using hb
        · rw [qchg_2]; simp [uI_1]
        · rw [qchg_4]; simp [uI_1]
        · rw [qchg_5]; simpa [uI_1] using hS.1
        · rw [qchg_6]; simp [uI_1]
      · rw [qchg_ne _ e, ← hb]
        simp [uI_1, e, show 30 + r ≠ 8 by omega]
    · intro i hi
      have hb := hS.2.2.2.2.2.2.2 i hi
      by_cases e : i = c
      · subst e
        rw [qchg_3, if_pos rfl]
        exact Or.inl (by simpa [uI_1] using hS.1)
      · rw [qchg_ne _ e]
        simpa [uI_1, e] using hb
  · simpa [uI_1] using hb
  · intro j h1 h2
    rw [← hT j h1 h2]
    simp [uI_1, show j ≠ 4 by omega, show j ≠ 5 by omega]
theorem x8_lieDown (hC : rC σ0 (s + 1) E) (h : rQ σ0 W s E D σ) {c : Nat} (hc : c < qeN E) (h0 : D 0 c = 0) (why b : Int32) : zwp (d_X8_lieDown σ s (nI c) why b) (rQ σ0 W s E (qchg D c 1 why b)) := by
  refine zwp_mono (x8_lieDown_b hC h hc h0 why b) (fun σ' h' => ?_)
  unfold rQ
  rw [qchg_7]; exact h'
theorem x8_getUp (hC : rC σ0 (s + 1) E) (h : rQ σ0 W s E D σ) {c : Nat} (hc : c < qeN E) (h0 : D 0 c ≠ 0) (why b : Int32) : zwp (d_X8_getUp σ s (nI c) why b) (rQ σ0 W s E (qchg D c 0 why b)) := by
  refine zwp_mono (x8_getUp_b hC h hc h0 why b) (fun σ' h' => ?_)
  unfold rQ
  rw [qchg_7]; exact h'
end
