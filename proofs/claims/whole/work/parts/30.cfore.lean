/-! THE CLASS: the drum, plays ahead -/
def qdr1 (c : Nat) (D : qD) : qD := if D 0 c = 0 then D else qchg D c 0 2 (-1)
theorem qdrum_eq (E : qE) (D : qD) : qdrum E D = qfor qdr1 (qeN E) D := rfl
theorem qdr1_ne {c : Nat} {D : qD} (r : Nat) {i : Nat} (h : i ≠ c) : qdr1 c D r i = D r i := by
  unfold qdr1
  split
  · rfl
  · exact qchg_ne _ h
theorem qdr1_7 (c : Nat) (D : qD) (i : Nat) : qdr1 c D 7 i = D 7 i := by
  unfold qdr1
  split
  · rfl
  · exact qchg_7 _
theorem qdr_ge {D : qD} (r : Nat) : ∀ n i, n ≤ i → qfor qdr1 n D r i = D r i
  | 0, i, _ => by rw [qfor_0]
  | n + 1, i, h => by rw [qfor, qdr1_ne r (by omega), qdr_ge r n i (by omega)]
theorem qdr_7 (D : qD) (i : Nat) : ∀ n, qfor qdr1 n D 7 i = D 7 i
  | 0 => by rw [qfor_0]
  | n + 1 => by rw [qfor, qdr1_7, qdr_7 D i n]
/-- how many are asleep -/
def qcnt (E : qE) (D : qD) : Int32 := qsum (fun i => if D 0 i = 0 then 0 else 1) (qeN E)
def qtired (E : qE) (D : qD) : Int32 := qsum (fun i => D 1 i) (qeN E)
theorem x8_wakeAll {σ : zH} {s : Nat} {W w : Int32} {E : qE} {D : qD} (h : rP W σ s E w D) : zwp (d_X8_wakeAll σ s) (fun p => zsm (F8 s) σ p.1 ∧ rP W p.1 s E w (qdrum E D) ∧ cst p.1 s = cst σ s ∧ p.2 = qcnt E D) := by
  obtain ⟨hC, hS, hO, hw⟩ := h
  have hn := hC.1
  unfold d_X8_wakeAll qcnt
  rw [qdrum_eq, show k_X8_wakeAll_4 zN σ s (0 : Int32) (0 : Int32) = k_X8_wakeAll_4 zN σ s (0 : Int32) (nI 0) by rw [nI_0]]
  refine zwp_for (fun f i (a : zH × Int32) => k_X8_wakeAll_4 f a.1 s a.2 (nI i)) (fun i a => rQb σ W s E (qfor qdr1 i D) (σ.1 8 s 16) a.1 ∧ a.2 = qsum (fun i => if D 0 i = 0 then 0 else 1) i) _ 0 (qeN E) (by omega) (by omega) ?_ ?_ (σ, 0) ⟨⟨zsm.rf, by rw [qfor_0]; exact hS, by rw [qfor_0]; exact hO, rfl, fun _ _ _ => rfl⟩, rfl⟩
  · rintro f i ⟨σ', x⟩ hi ⟨hI, hx⟩ IH
    dsimp only at hI hx ⊢
    have hd0 : qfor qdr1 i D 0 i = D 0 i := qdr_ge 0 i i (Nat.le_refl _)
    generalize hD : qfor qdr1 i D = D' at hI hd0
    have hC1 := hI.C hC
    rw [k_X8_wakeAll_4, hC1.2.1, if_pos (nI_lt hi (by omega)), x8_asleep hC1 hI.2.1 hi]
    simp only [Option.bind_some]
    rw [nI_1]
    refine zwp_if (fun e => ?_) (fun e => ?_)
    · rw [b2i_0] at e
      have ha : D' 0 i = 0 := by unfold qdown at e; simpa using e
      refine IH (σ', x) ⟨?_, ?_⟩
      · rw [qfor, hD]; unfold qdr1; rw [if_pos ha]; exact hI
      · rw [qsum, if_pos (by rw [← hd0]; exact ha), hx, Int32.add_zero]
    · rw [b2i_0, Bool.not_eq_false] at e
      have ha : ¬ D' 0 i = 0 := by unfold qdown at e; simpa using e
      refine zwp_to (x8_getUp_b hC hI hi ha 2 (-1)) (fun σ2 h2 => IH (σ2, x + 1) ⟨?_, ?_⟩)
      · rw [qfor, hD]; unfold qdr1; rw [if_neg ha]; exact h2
      · show x + 1 = _
        rw [qsum, if_neg (by rw [← hd0]; exact ha), hx]
  · rintro f ⟨σ', x⟩ ⟨hI, hx⟩
    dsimp only at hI hx ⊢
    have hC1 := hI.C hC
    rw [k_X8_wakeAll_4, hC1.2.1, if_neg (nI_nlt (Nat.le_refl _) (by omega))]
    refine zwp_some.mpr ⟨hI.1, ⟨hC1, hI.2.1, hI.2.2.1, ?_⟩, ?_, hx⟩
    · rw [(hI.1 0 (s + 1) (by unfold F8; omega)).1]; exact hw
    · have hT := hI.2.2.2.2
      unfold cst
      rw [hT 12 (by omega) (by omega), hT 13 (by omega) (by omega), hT 14 (by omega) (by omega)]
theorem x8_tired {σ : zH} {s : Nat} {W w : Int32} {E : qE} {D : qD} (h : rP W σ s E w D) : d_X8_tiredTogether σ s = some (σ, qtired E D) := by
  obtain ⟨hC, hS, hO, hw⟩ := h
  have hn := hC.1
  rw [← zwp_eq]
  unfold d_X8_tiredTogether qtired
  rw [show k_X8_tiredTogether_4 zN σ s (0 : Int32) (0 : Int32) = k_X8_tiredTogether_4 zN σ s (0 : Int32) (nI 0) by rw [nI_0]]
  refine zwp_for (fun f i (a : Int32) => k_X8_tiredTogether_4 f σ s a (nI i)) (fun i a => a = qsum (fun i => D 1 i) i) _ 0 (qeN E) (by omega) (by omega) ?_ ?_ _ rfl
  · rintro f i _ hi rfl IH
    rw [k_X8_tiredTogether_4, hC.2.1, if_pos (nI_lt hi (by omega)), ix_nI (by omega) (by omega), Nat.add_zero, show σ.1 31 s i = D 1 i from hS.2.2.2.2.2.2.1 1 i (by omega) (by omega) (by omega) hi, nI_1]
    exact IH _ rfl
  · rintro f _ rfl
    rw [k_X8_tiredTogether_4, hC.2.1, if_neg (nI_nlt (Nat.le_refl _) (by omega))]
    exact zwp_some.mpr rfl
theorem x8_pass {σ : zH} {s l : Nat} {W w : Int32} {E : qE} {D : qD} {cl : List (Bool × List qop)} (hE : qeL E = qlaw cl) (hL : rL σ l cl) (h : rP W σ s E w D) (n : Nat) (hn : n ≤ 3000) (hd : (D 7 0).toInt + n ≤ 20000) :
    zwp (d_X8_passQuarters σ s l (nI n)) (fun σ' => zsm (F8 s) σ σ' ∧ rP W σ' s E w (qrun E n D) ∧ cst σ' s = qstn E w n D (cst σ s)) := by
  obtain ⟨hC, hS, hO, hw⟩ := h
  refine zwp_mono (x8_passQuarters hE hC hL hS hO n hn hd) (fun σ' h' => ?_)
  obtain ⟨g1, g2, g3, g4⟩ := h'
  refine ⟨g1, ⟨hC.mv (fun k hk => (g1 k (s + 1) (by unfold F8; omega)).1), g2, g3, ?_⟩, by rw [g4, hw]⟩
  rw [(g1 0 (s + 1) (by unfold F8; omega)).1]; exact hw
theorem x8_copyP {σ : zH} {s t : Nat} (hst : s ≠ t) {W w : Int32} {E : qE} {D : qD} (h : rP W σ t E w D) : zwp (d_X8_copyFrom σ s t) (fun σ' => zsm (Fs s) σ σ' ∧ rP W σ' s E w D ∧ cst σ' s = cst σ t) := by
  refine zwp_mono (x8_copyFrom hst σ) (fun σ' c => ⟨c.1, ⟨h.1.cp c, h.2.1.cp h.1.1 c, h.2.2.1, ?_⟩, ?_⟩)
  · rw [c.2.2.2.1 12 (by omega)]; exact h.2.2.2
  · unfold cst
    rw [c.2.1 12 (by omega), c.2.1 13 (by omega), c.2.1 14 (by omega)]
theorem x2_restart {σ : zH} {W w : Int32} {E : qE} {D : qD} (h : rP W σ 0 E w D) : zwp (d_X2_restart σ) (fun σ' => zsm (Fs 5) σ σ' ∧ rP (-(D 7 2)) σ' 5 E w D ∧ cst σ' 5 = (0, -2, qall E)) := by
  unfold d_X2_restart
  refine zwp_to (x8_copyP (by omega) h) (fun σ1 h1 => ?_)
  obtain ⟨g1, g2, g3⟩ := h1
  refine zwp_to (x8_beginCounts g2.1 g2.2.1) (fun σ2 h2 => zwp_some.mpr ?_)
  obtain ⟨k1, k2, k3⟩ := h2
  refine ⟨g1.tr (k1.mono (fun k i q => Or.inl q)), ⟨g2.1.mv (fun k hk => (k1 k 6 (by unfold F8; omega)).1), k2, g2.2.2.1, ?_⟩, k3⟩
  rw [(k1 0 6 (by unfold F8; omega)).1]; exact g2.2.2.2
theorem rL.F {σ σ' : zH} {s l : Nat} {cl : List (Bool × List qop)} (h : rL σ l cl) (hz : zsm (Fs s) σ σ') : rL σ' l cl := h.mv (fun k hk => (hz k l (by unfold Fs F8; omega)).1)
/-! counts of a run with the drum -/
def qts (E : qE) (w : Int32) (at_ : Nat) : Nat → qD → Int32 × Int32 × Int32 → Int32 × Int32 × Int32
  | 0, _, a => a
  | k + 1, D, a => qst w (qmen E (qtr E at_ (k + 1) D)) (qtr E at_ k D 7 0) (qts E w at_ k D a)
theorem qtr_lo {E : qE} {at_ : Nat} (D : qD) : ∀ n, n ≤ at_ → qtr E at_ n D = qrun E n D
  | 0, _ => by rw [qtr, qrun]
  | n + 1, h => by rw [qtr, if_neg (by omega), qtr_lo D n (by omega), qrun]
theorem qts_lo {E : qE} {w : Int32} {at_ : Nat} (D : qD) (a : Int32 × Int32 × Int32) : ∀ n, n ≤ at_ → qts E w at_ n D a = qstn E w n D a
  | 0, _ => by rw [qts, qstn]
  | n + 1, h => by rw [qts, qstn, qtr_lo D n (by omega), qtr_lo D (n + 1) h, qts_lo D a n (by omega)]
theorem qtr_hi {E : qE} {at_ : Nat} (D : qD) : ∀ m, qtr E at_ (at_ + 1 + m) D = qrun E (m + 1) (qdrum E (qrun E at_ D))
  | 0 => by rw [Nat.add_zero, qtr, if_pos rfl, qtr_lo D at_ (Nat.le_refl _), qrun, qrun]
  | m + 1 => by rw [← Nat.add_assoc, qtr, if_neg (by omega), qtr_hi D m, ← qrun]
theorem qdrum_70 (E : qE) (D : qD) (i : Nat) : qdrum E D 7 i = D 7 i := by rw [qdrum_eq, qdr_7]
theorem qts_hi {E : qE} {w : Int32} {at_ : Nat} (D : qD) (a : Int32 × Int32 × Int32) : ∀ m, qts E w at_ (at_ + 1 + m) D a = qstn E w (m + 1) (qdrum E (qrun E at_ D)) (qstn E w at_ D a)
  | 0 => by
    have h := qtr_hi (E := E) (at_ := at_) D 0
    rw [Nat.add_zero] at h ⊢
    rw [qts, h, qtr_lo D at_ (Nat.le_refl _), qts_lo D a at_ (Nat.le_refl _), qstn, qrun, qstn, qdrum_70]
  | m + 1 => by
    have h1 := qtr_hi (E := E) (at_ := at_) D (m + 1)
    have h2 := qtr_hi (E := E) (at_ := at_) D m
    rw [← Nat.add_assoc] at h1 ⊢
    rw [qts, h1, h2, qts_hi D a m, ← qstn]
theorem x2_playAt {σ : zH} {l : Nat} {W w : Int32} {E : qE} {D : qD} {cl : List (Bool × List qop)} (hE : qeL E = qlaw cl) (hL : rL σ l cl) (h : rP W σ 0 E w D) (n : Nat) (hn : n ≤ 192) (hd : (D 7 0).toInt ≤ 10000) :
    zwp (d_X2_play σ l (nI n)) (fun σ' => zsm (Fs 5) σ σ' ∧ rP (-(D 7 2)) σ' 5 E w (qtr E n n D) ∧ cst σ' 5 = qts E w n n D (0, -2, qall E)) := by
  unfold d_X2_play
  refine zwp_to (x2_restart h) (fun σ1 h1 => ?_)
  refine zwp_to (x8_pass hE (hL.F h1.1) h1.2.1 n (by omega) (by omega)) (fun σ2 h2 => zwp_some.mpr ⟨h1.1.tr (h2.1.mono (fun k i q => Or.inl q)), ?_, ?_⟩)
  · rw [qtr_lo D n (Nat.le_refl _)]; exact h2.2.1
  · rw [qts_lo D _ n (Nat.le_refl _), h2.2.2, h1.2.2]
theorem x2_struck {σ : zH} {l : Nat} {W w : Int32} {E : qE} {D : qD} {cl : List (Bool × List qop)} (hE : qeL E = qlaw cl) (hL : rL σ l cl) (h : rP W σ 0 E w D) (n at_ : Nat) (hn : n ≤ 192) (ha : at_ < n) (hd : (D 7 0).toInt ≤ 10000) :
    zwp (d_X2_playStruck σ l (nI at_) (nI n)) (fun σ' => zsm (Fs 5) σ σ' ∧ rP (-(D 7 2)) σ' 5 E w (qtr E at_ n D) ∧ cst σ' 5 = qts E w at_ n D (0, -2, qall E)) := by
  have h00 := h.2.2.1.2.2.1
  unfold d_X2_playStruck
  refine zwp_to (x2_restart h) (fun σ1 h1 => ?_)
  refine zwp_to (x8_pass hE (hL.F h1.1) h1.2.1 at_ (by omega) (by omega)) (fun σ2 h2 => ?_)
  refine zwp_to (x8_wakeAll h2.2.1) (fun p h3 => ?_)
  have z2 := h1.1.tr (h2.1.mono (fun k i q => Or.inl q))
  have z3 := z2.tr (h3.1.mono (fun k i q => Or.inl q))
  have ht := qrun_70 E D at_ (by omega) (by omega)
  rw [pk_sub (by omega)]
  refine zwp_to (x8_pass hE (hL.F z3) h3.2.1 (n - at_) (by omega) (by rw [qdrum_70]; omega)) (fun σ4 h4 => zwp_some.mpr ⟨z3.tr (h4.1.mono (fun k i q => Or.inl q)), ?_, ?_⟩)
  · have := qtr_hi (E := E) (at_ := at_) D (n - at_ - 1)
    rw [show at_ + 1 + (n - at_ - 1) = n by omega, show n - at_ - 1 + 1 = n - at_ by omega] at this
    rw [this]; exact h4.2.1
  · have := qts_hi (E := E) (w := w) (at_ := at_) D (0, -2, qall E) (n - at_ - 1)
    rw [show at_ + 1 + (n - at_ - 1) = n by omega, show n - at_ - 1 + 1 = n - at_ by omega] at this
    rw [this, h4.2.2, h3.2.2.1, h2.2.2, h1.2.2]
/-- what AHEAD and STRUCK answer -/
def qout (E : qE) (w : Int32) (at_ n : Nat) (D : qD) (what : Nat) : Int32 := match what with
  | 0 => (qts E w at_ n D (0, -2, qall E)).2.2
  | 1 => (qts E w at_ n D (0, -2, qall E)).1
  | 2 => if (qts E w at_ n D (0, -2, qall E)).2.1 = -2 then -2 else (qts E w at_ n D (0, -2, qall E)).2.1 - D 7 0
  | 3 => qtired E (qtr E at_ n D)
  | _ => qtr E at_ n D 7 2 - D 7 2
theorem x2_outcome {σ σ' : zH} {W w : Int32} {E : qE} {D : qD} {at_ n : Nat} (h : rP W σ 0 E w D) (hz : zsm (Fs 5) σ σ') (h5 : rP (-(D 7 2)) σ' 5 E w (qtr E at_ n D)) (hc : cst σ' 5 = qts E w at_ n D (0, -2, qall E)) (what : Nat) (hw : what ≤ 4) :
    d_X2_outcome σ' (nI what) = some (σ', qout E w at_ n D what) := by
  have c1 : σ'.1 8 5 12 = (qts E w at_ n D (0, -2, qall E)).1 := by rw [← hc]; rfl
  have c2 : σ'.1 8 5 13 = (qts E w at_ n D (0, -2, qall E)).2.1 := by rw [← hc]; rfl
  have c3 : σ'.1 8 5 14 = (qts E w at_ n D (0, -2, qall E)).2.2 := by rw [← hc]; rfl
  have c4 : σ'.1 8 0 1 = D 7 0 := by rw [(hz 8 0 (by unfold Fs F8; omega)).1]; exact h.2.1.1
  have c5 : σ'.1 8 5 15 = qtr E at_ n D 7 2 - D 7 2 := by
    rw [h5.2.1.2.2.2.2.2.1, Int32.sub_eq_add_neg]; ac_rfl
  unfold d_X2_outcome
  have : what = 0 ∨ what = 1 ∨ what = 2 ∨ what = 3 ∨ what = 4 := by omega
  rcases this with rfl | rfl | rfl | rfl | rfl
  · rw [if_pos (by decide), c3]; rfl
  · rw [if_neg (by decide), if_pos (by decide), c1]; rfl
  · rw [if_neg (by decide), if_neg (by decide), if_pos (by decide), c2, c4]
    unfold qout
    split <;> rfl
  · rw [if_neg (by decide), if_neg (by decide), if_neg (by decide), if_pos (by decide), x8_tired h5]; rfl
  · rw [if_neg (by decide), if_neg (by decide), if_neg (by decide), if_neg (by decide), c5]; rfl
