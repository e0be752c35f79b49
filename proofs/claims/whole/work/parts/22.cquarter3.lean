/-! THE CLASS: a quarter, whole; many -/
theorem qfor_0 (f : Nat → qD → qD) (D : qD) : qfor f 0 D = D := rfl
theorem i32_0 : (0 : Int32).toInt = 0 := by decide
theorem i32_1 : (1 : Int32).toInt = 1 := by decide
theorem i32_2 : (2 : Int32).toInt = 2 := by decide
theorem i32_m1 : (-1 : Int32).toInt = -1 := by decide
theorem i32_m2 : (-2 : Int32).toInt = -2 := by decide
theorem i32_999 : (999 : Int32).toInt = 999 := by decide
theorem qclamp_rng (t : Int32) : 0 ≤ (qclamp t).toInt ∧ (qclamp t).toInt ≤ 999 := by
  unfold qclamp
  simp only [fa_lt, i32_0, i32_999]
  split
  · rw [i32_0]; omega
  · split
    · rw [i32_999]; omega
    · omega
theorem tire_down {x : Int32} (h0 : 0 ≤ x.toInt) (h1 : x.toInt ≤ 999) : zmx 0 (x - 2) = qclamp (x + -2) := by
  have e : x + -2 = x - 2 := (Int32.sub_eq_add_neg ..).symm
  have h2 : (x - 2).toInt = x.toInt - 2 := by rw [fb_subI (by rw [i32_2]; omega) (by rw [i32_2]; omega), i32_2]
  rw [e]
  apply Int32.toInt_inj.mp
  unfold zmx qclamp
  simp only [fa_lt, h2, i32_0, i32_999]
  repeat' split
  all_goals simp only [h2, i32_0, i32_999]
  all_goals omega
theorem tire_up {x : Int32} (h0 : 0 ≤ x.toInt) (h1 : x.toInt ≤ 999) : zmn 999 (x + 1) = qclamp (x + 1) := by
  have h2 : (x + 1).toInt = x.toInt + 1 := by rw [fb_addI (by rw [i32_1]; omega) (by rw [i32_1]; omega), i32_1]
  apply Int32.toInt_inj.mp
  unfold zmn qclamp
  simp only [fa_lt, h2, i32_0, i32_999]
  repeat' split
  all_goals simp only [h2, i32_0, i32_999]
  all_goals omega
theorem long_up {x : Int32} (h0 : 0 ≤ x.toInt) (h1 : x.toInt ≤ 999) : zmn 999 (x + 1) = x + (if x < 999 then 1 else 0) := by
  have h2 : (x + 1).toInt = x.toInt + 1 := by rw [fb_addI (by rw [i32_1]; omega) (by rw [i32_1]; omega), i32_1]
  unfold zmn
  by_cases h : x < 999
  · rw [if_pos h]
    rw [fa_lt, i32_999] at h
    split
    · rfl
    · rename_i h9
      rw [fa_lt, h2, i32_999] at h9
      exact Int32.toInt_inj.mp (by rw [h2, i32_999]; omega)
  · rw [if_neg h]
    rw [fa_lt, i32_999] at h
    rw [if_neg (by rw [fa_lt, h2, i32_999]; omega), Int32.add_zero]
    exact Int32.toInt_inj.mp (by rw [i32_999]; omega)
theorem long_rng {x : Int32} (h0 : 0 ≤ x.toInt) (h1 : x.toInt ≤ 999) : 0 ≤ (x + (if x < 999 then 1 else 0)).toInt ∧ (x + (if x < 999 then 1 else 0)).toInt ≤ 999 := by
  have h2 : (x + 1).toInt = x.toInt + 1 := by rw [fb_addI (by rw [i32_1]; omega) (by rw [i32_1]; omega), i32_1]
  by_cases h : x < 999
  · rw [if_pos h]
    rw [fa_lt, i32_999] at h
    omega
  · rw [if_neg h, Int32.add_zero]
    omega
theorem qtire1_ne {c : Nat} {D : qD} {r i : Nat} (h : ¬ ((r = 1 ∨ r = 2) ∧ i = c)) : qtire1 c D r i = D r i := by
  unfold qtire1
  rw [dU_ne _ _ (by omega), dU_ne _ _ (by omega)]
theorem qtire1_1 {c : Nat} {D : qD} : qtire1 c D 1 c = qclamp (D 1 c + (if D 0 c = 0 then 1 else -2)) := by
  unfold qtire1
  rw [dU_ne _ _ (by omega), dU_eq]
theorem qtire1_2 {c : Nat} {D : qD} : qtire1 c D 2 c = D 2 c + (if D 2 c < 999 then 1 else 0) := by
  unfold qtire1
  rw [dU_eq]
theorem qOK.tire {E : qE} {D : qD} (h : qOK E D) (c : Nat) : qOK E (qtire1 c D) := by
  refine ⟨fun i hi => ?_, by rw [qtire1_ne (by omega)]; exact h.2.1, by rw [qtire1_ne (by omega)]; exact h.2.2.1, h.2.2.2⟩
  obtain ⟨h1, h2, h3, h4, h5⟩ := h.1 i hi
  rw [qtire1_ne (by omega)]
  by_cases e : i = c
  · subst e
    rw [qtire1_1, qtire1_2]
    exact ⟨h1, (qclamp_rng _).1, (qclamp_rng _).2, (long_rng h4 h5).1, (long_rng h4 h5).2⟩
  · rw [qtire1_ne (by omega), qtire1_ne (by omega)]
    exact ⟨h1, h2, h3, h4, h5⟩
/-- counts of a run: how often it failed, when first, the least men up -/
def qst (w men now : Int32) (a : Int32 × Int32 × Int32) : Int32 × Int32 × Int32 := (if men < w then a.1 + 1 else a.1, if men < w then (if a.2.1 = -2 then now else a.2.1) else a.2.1, zmn a.2.2 men)
def qstn (E : qE) (w : Int32) : Nat → qD → Int32 × Int32 × Int32 → Int32 × Int32 × Int32
  | 0, _, a => a
  | n + 1, D, a => qst w (qmen E (qrun E (n + 1) D)) (qrun E n D 7 0) (qstn E w n D a)
def cst (σ : zH) (s : Nat) : Int32 × Int32 × Int32 := (σ.1 8 s 12, σ.1 8 s 13, σ.1 8 s 14)
section
variable {σ0 : zH} {W : Int32} {s l : Nat} {E : qE} {cl : List (Bool × List qop)}
theorem rQ.tire {D : qD} {σ : zH} (h : rQ σ0 W s E D σ) {c : Nat} (hc : c < qeN E) {a b : Int32} (ha : a = qclamp (D 1 c + (if D 0 c = 0 then 1 else -2))) (hb2 : b = D 2 c + (if D 2 c < 999 then 1 else 0)) :
    rQ σ0 W s E (qtire1 c D) (uI (uI σ 31 s c a) 32 s c b) := by
  obtain ⟨hz, hS, hO, hb, hT⟩ := h
  have hm : qmen E (qtire1 c D) = qmen E D := qsum_cong (fun i _ => by rw [qtire1_ne (by omega)])
  have hk : qmask (qdown (qtire1 c D)) (qeN E) = qmask (qdown D) (qeN E) := qmask_cong (fun i _ => by unfold qdown; rw [qtire1_ne (by omega)])
  refine ⟨(hz.uI (Or.inr (Or.inl ⟨by omega, by omega, rfl⟩)) _ _).uI (Or.inr (Or.inl ⟨by omega, by omega, rfl⟩)) _ _, ⟨?_, ?_, ?_, ?_, ?_, ?_, ?_, ?_⟩, hO.tire c, ?_, ?_⟩
  · rw [qtire1_ne (by omega)]; simpa [uI_1] using hS.1
  · rw [qtire1_ne (by omega)]; simpa [uI_1] using hS.2.1
  · simpa [uI_1] using hS.2.2.1
  · rw [hk]; simpa [uI_1] using hS.2.2.2.1
  · rw [hm]; simpa [uI_1] using hS.2.2.2.2.1
  · rw [qtire1_ne (by omega)]; simpa [uI_1] using hS.2.2.2.2.2.1
  · intro r i hr h1 h3 hi
    have hb := hS.2.2.2.2.2.2.1 r i hr h1 h3 hi
    by_cases e1 : r = 1
    · subst e1
      by_cases e : i = c
      · subst e; rw [qtire1_1, ← ha]; simp [uI_1]
      · rw [qtire1_ne (by omega), ← hb]; simp [uI_1, e]
    · by_cases e2 : r = 2
      · subst e2
        by_cases e : i = c
        · subst e; rw [qtire1_2, ← hb2]; simp [uI_1]
        · rw [qtire1_ne (by omega), ← hb]; simp [uI_1, e]
      · rw [qtire1_ne (by omega), ← hb]
        simp [uI_1, show 30 + r ≠ 31 by omega, show 30 + r ≠ 32 by omega]
  · intro i hi
    rw [qtire1_ne (by omega)]
    simpa [uI_1] using hS.2.2.2.2.2.2.2 i hi
  · rw [qtire1_ne (by omega)]; simpa [uI_1] using hb
  · intro j h1 h2
    rw [← hT j h1 h2]
    simp [uI_1]
theorem x8_tire_end {D : qD} {σ' : zH} (hI : rQ σ0 W s E D σ') :
    zwp (j_X8_tire_82 σ' s) (fun σ'' => zsm (F8 s) σ0 σ'' ∧ rS W σ'' s E D ∧ qOK E D ∧ cst σ'' s = qst (σ0.1 0 (s + 1) 12) (qmen E D) (D 7 0) (cst σ0 s)) := by
  obtain ⟨hz, hS, hO, hb, hT⟩ := hI
  have hw : σ'.1 0 (s + 1) 12 = σ0.1 0 (s + 1) 12 := by rw [(hz 0 (s + 1) (by unfold F8; omega)).1]
  have t12 := hT 12 (by omega) (by omega)
  have t13 := hT 13 (by omega) (by omega)
  have t14 := hT 14 (by omega) (by omega)
  have hfin : ∀ σ'', zsm (F8 s) σ0 σ'' → (∀ k i j, ¬ (k = 8 ∧ i = s ∧ 12 ≤ j ∧ j ≤ 14) → σ''.1 k i j = σ'.1 k i j) → rS W σ'' s E D := fun σ'' _ hk => by
    obtain ⟨a1, a2, a3, a4, a5, a6, a7, a8⟩ := hS
    refine ⟨?_, ?_, ?_, ?_, ?_, ?_, ?_, ?_⟩
    · rw [hk _ _ _ (by omega)]; exact a1
    · rw [hk _ _ _ (by omega)]; exact a2
    · rw [hk _ _ _ (by omega)]; exact a3
    · rw [hk _ _ _ (by omega)]; exact a4
    · rw [hk _ _ _ (by omega)]; exact a5
    · rw [hk _ _ _ (by omega)]; exact a6
    · intro r i hr h1 h3 hi
      rw [hk _ _ _ (by omega)]; exact a7 r i hr h1 h3 hi
    · intro i hi
      rw [hk _ _ _ (by omega)]; exact a8 i hi
  unfold j_X8_tire_82
  simp only [zlet]
  have e1 : (uI σ' 8 s 14 (zmn (σ'.1 8 s 14) (σ'.1 8 s 5))).1 8 s 5 = qmen E D := by simpa [uI_1] using hS.2.2.2.2.1
  have e2 : (uI σ' 8 s 14 (zmn (σ'.1 8 s 14) (σ'.1 8 s 5))).1 0 (s + 1) 12 = σ0.1 0 (s + 1) 12 := by simpa [uI_1] using hw
  rw [e1, e2]
  refine zwp_if (fun h1 => ?_) (fun h1 => ?_)
  · have e3 : (uI (uI σ' 8 s 14 (zmn (σ'.1 8 s 14) (σ'.1 8 s 5))) 8 s 12 ((uI σ' 8 s 14 (zmn (σ'.1 8 s 14) (σ'.1 8 s 5))).1 8 s 12 + 1)).1 8 s 13 = σ0.1 8 s 13 := by simpa [uI_1] using t13
    rw [e3]
    refine zwp_if (fun h2 => zwp_some.mpr ?_) (fun h2 => zwp_some.mpr ?_)
    · have hzz := ((hz.uI (k := 8) (i := s) (Or.inl ⟨rfl, rfl⟩) 14 (zmn (σ'.1 8 s 14) (σ'.1 8 s 5))).uI (k := 8) (i := s) (Or.inl ⟨rfl, rfl⟩) 12 ((uI σ' 8 s 14 (zmn (σ'.1 8 s 14) (σ'.1 8 s 5))).1 8 s 12 + 1)).uI (k := 8) (i := s) (Or.inl ⟨rfl, rfl⟩) 13 ((uI (uI σ' 8 s 14 (zmn (σ'.1 8 s 14) (σ'.1 8 s 5))) 8 s 12 ((uI σ' 8 s 14 (zmn (σ'.1 8 s 14) (σ'.1 8 s 5))).1 8 s 12 + 1)).1 8 s 1)
      refine ⟨hzz, hfin _ hzz (fun k i j hk => ?_), hO, ?_⟩
      · simp only [uI_1]
        rw [if_neg (by omega), if_neg (by omega), if_neg (by omega)]
      · unfold cst qst
        simp only [uI_1]
        simp [h1, h2, t12, t14, hS.1, hS.2.2.2.2.1]
    · have hzz := (hz.uI (k := 8) (i := s) (Or.inl ⟨rfl, rfl⟩) 14 (zmn (σ'.1 8 s 14) (σ'.1 8 s 5))).uI (k := 8) (i := s) (Or.inl ⟨rfl, rfl⟩) 12 ((uI σ' 8 s 14 (zmn (σ'.1 8 s 14) (σ'.1 8 s 5))).1 8 s 12 + 1)
      refine ⟨hzz, hfin _ hzz (fun k i j hk => ?_), hO, ?_⟩
      · simp only [uI_1]
        rw [if_neg (by omega), if_neg (by omega)]
      · unfold cst qst
        simp only [uI_1]
        simp [h1, h2, t12, t13, t14, hS.2.2.2.2.1]
  · have hzz := hz.uI (k := 8) (i := s) (Or.inl ⟨rfl, rfl⟩) 14 (zmn (σ'.1 8 s 14) (σ'.1 8 s 5))
    refine zwp_some.mpr ⟨hzz, hfin _ hzz (fun k i j hk => ?_), hO, ?_⟩
    · simp only [uI_1]
      rw [if_neg (by omega)]
    · unfold cst qst
      simp only [uI_1]
      simp [h1, t12, t13, t14, hS.2.2.2.2.1]
theorem x8_tire (hC : rC σ0 (s + 1) E) {D : qD} {σ : zH} (h : rQ σ0 W s E (qq3 E D) σ) :
    zwp (d_X8_tire σ s) (fun σ' => zsm (F8 s) σ0 σ' ∧ rS W σ' s E (qq4 E D) ∧ qOK E (qq4 E D) ∧ cst σ' s = qst (σ0.1 0 (s + 1) 12) (qmen E (qq4 E D)) (qq4 E D 7 0) (cst σ0 s)) := by
  have hn := hC.1
  unfold d_X8_tire qq4
  rw [nI_c0]
  refine zwp_for (fun f i (σ' : zH) => k_X8_tire_2 j_X8_tire_82 f σ' s (nI i)) (fun i σ' => rQ σ0 W s E (qfor qtire1 i (qq3 E D)) σ') _ 0 (qeN E) (by omega) (by omega) ?_ ?_ σ (by rw [qfor_0]; exact h)
  · intro f i σ' hi hI IH
    generalize hD : qfor qtire1 i (qq3 E D) = D' at hI
    have hC1 := hI.C hC
    have ho := hI.2.2.1.1 i hi
    have h31 := hI.2.1.2.2.2.2.2.2.1 1 i (by omega) (by omega) (by omega) hi
    have h32 := hI.2.1.2.2.2.2.2.2.1 2 i (by omega) (by omega) (by omega) hi
    have hgo : ∀ a, a = qclamp (D' 1 i + (if D' 0 i = 0 then 1 else -2)) → zwp (j_X8_tire_55 (k_X8_tire_2 j_X8_tire_82 f) σ' s (nI i) (s + 0) (nI i) a) (fun σ' => zsm (F8 s) σ0 σ' ∧ rS W σ' s E (qfor qtire1 (qeN E) (qq3 E D)) ∧ qOK E (qfor qtire1 (qeN E) (qq3 E D)) ∧ cst σ' s = qst (σ0.1 0 (s + 1) 12) (qmen E (qfor qtire1 (qeN E) (qq3 E D))) (qfor qtire1 (qeN E) (qq3 E D) 7 0) (cst σ0 s)) := fun a ha => by
      unfold j_X8_tire_55
      rw [ix_nI (by omega) (by omega)]
      refine zwp_let.mpr ?_
      rw [ix_nI (by omega) (by omega), ix_nI (by omega) (by omega)]
      refine zwp_let.mpr ?_
      rw [nI_1]
      refine IH _ ?_
      rw [qfor, hD]
      refine hI.tire hi ha ?_
      simp only [uI_1, Nat.add_zero]
      rw [if_neg (by omega), h32]
      exact long_up ho.2.2.2.1 ho.2.2.2.2
    rw [k_X8_tire_2, hC1.2.1, if_pos (nI_lt hi (by omega)), x8_asleep hC1 hI.2.1 hi]
    simp only [Option.bind_some]
    rw [ix_nI (by omega) (by omega), ix_nI (by omega) (by omega), Nat.add_zero, h31]
    refine zwp_if (fun e1 => ?_) (fun e1 => ?_)
    · rw [b2i_0] at e1
      have ha : D' 0 i = 0 := by unfold qdown at e1; simpa using e1
      exact hgo _ (by rw [if_pos ha]; exact tire_up ho.2.1 ho.2.2.1)
    · rw [b2i_0, Bool.not_eq_false] at e1
      have ha : ¬ D' 0 i = 0 := by unfold qdown at e1; simpa using e1
      exact hgo _ (by rw [if_neg ha]; exact tire_down ho.2.1 ho.2.2.1)
  · intro f σ' hI
    have hC1 := hI.C hC
    rw [k_X8_tire_2, hC1.2.1, if_neg (nI_nlt (Nat.le_refl _) (by omega))]
    exact x8_tire_end hI
end
