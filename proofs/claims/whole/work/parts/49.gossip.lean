/-! CALLS: gossip, the class -/
/-- who is up after k + 1 quarters -/
def qU (E : qE) (D : qD) (k : Nat) : Int32 := qmask (qup (qrun E (k + 1) D)) (qeN E)
def qsh (E : qE) (a b : Nat) : Bool := decide (qeR E 1 a = qeR E 1 b) || decide (qeR E 2 a = qeR E 2 b)
def qwnp (E : qE) (u m : Int32) (o c : Nat) : Bool := qsh E c o && bt u c && !bt m c
def qwon (E : qE) (u m : Int32) (o : Nat) : Int32 := if qfst (qwnp E u m o) (qeN E) = -1 then 0 else (1 : Int32) <<< (qfst (qwnp E u m o) (qeN E) &&& 31)
def qspr (E : qE) (u m0 : Int32) : Nat → Int32
  | 0 => m0
  | k + 1 => if bt m0 k && bt u k then qspr E u m0 k ||| qwon E u (qspr E u m0 k) k else qspr E u m0 k
def qmut (E : qE) (D : qD) (st : Nat) (m0 : Int32) : Nat → Int32
  | 0 => m0
  | k + 1 => qspr E (qU E D (st + k)) (qmut E D st m0 k) (qeN E)
def qmenof (E : qE) (x : Int32) : Int32 := qsum (fun i => if bt x i then qeR E 0 i else 0) (qeN E)
theorem c_foresee {σc : zH} {r : Nat} {E : qE} {wt : Int32} {D : qD} {cl : List (Bool × List qop)} (hE : qeL E = qlaw cl) (hL : rL σc r cl) (h : rP 0 σc 0 E wt D) (hd : (D 7 0).toInt ≤ 9999) (T : Nat) (hT : T ≤ 192) :
    zwp (d_X3_foresee σc r (nI T)) (fun σ' => zsm Gc σc σ' ∧ ∀ k, k < T → σ'.1 23 0 k = qU E D k) := by
  have h00 := h.2.2.1.2.2.1
  have g7 : ∀ k i, Fs 7 k i → Gc k i := fun k i q => by unfold Fs F8 at q; unfold Gc; omega
  unfold d_X3_foresee
  obtain ⟨σ1, e1, z1, p1, -⟩ := x8_copyP (s := 7) (t := 0) (by omega) h
  rw [e1]
  simp only [Option.bind_some]
  rw [nI_c0]
  refine zwp_for (fun f i (τ : zH) => k_X3_foresee_13 f τ r (nI T) (nI i)) (fun i τ => zsm Gc σc τ ∧ rP 0 τ 7 E wt (qrun E i D) ∧ ∀ k, k < i → τ.1 23 0 k = qU E D k) _ 0 T (by omega) (by omega) ?_ ?_ σ1 ⟨z1.mono g7, by rw [qrun]; exact p1, fun k hk => by omega⟩
  · rintro f i τ hi ⟨i1, i2, i3⟩ IH
    have ht := qrun_70 E D i (by omega) (by omega)
    rw [k_X3_foresee_13, if_pos (nI_lt hi (by omega)), if_pos (show nI i < (192 : Int32) from nI_lt (b := 192) (by omega) (by omega))]
    obtain ⟨τ1, f1, w1, q1, -⟩ := x8_pass hE (hL.gc i1) i2 1 (by omega) (by omega)
    rw [nI_one] at f1
    rw [f1]
    simp only [Option.bind_some]
    rw [x8_upBits q1.1 q1.2.1]
    simp only [Option.bind_some]
    rw [ix_nI (by omega) (by omega), nI_1]
    have hq : qrun E 1 (qrun E i D) = qrun E (i + 1) D := by rw [qrun, qrun, qrun]
    rw [hq] at q1
    rw [hq]
    refine zwp_let.mpr (IH _ ⟨(i1.tr (w1.mono (fun k i q => g7 k i (Or.inl q)))).uI (by unfold Gc; omega) _ _, ?_, fun k hk => ?_⟩)
    · have w : zsm (fun k _ => k = 23) τ1 (uI τ1 23 0 i (qmask (qup (qrun E (i + 1) D)) (qeN E))) := (zsm.rf (F := fun k _ => k = 23)).uI (k := 23) (i := 0) rfl _ _
      exact q1.mvF (fun k hk => (w k _ (by omega)).1) (fun k hk => (w k _ (by omega)).1)
    · rw [uI_1]
      by_cases e : k = i
      · rw [if_pos ⟨rfl, rfl, e⟩, e]; rfl
      · rw [if_neg (by omega), (w1 23 0 (by unfold F8; omega)).1]; exact i3 k (by omega)
  · rintro f τ ⟨i1, -, i3⟩
    rw [k_X3_foresee_13, if_neg (nI_nlt (Nat.le_refl _) (by omega))]
    exact zwp_some.mpr ⟨i1, i3⟩
section
variable {σ : zH} {E : qE}
theorem x3_firstToWin (hC : rC σ 1 E) {o : Nat} (ho : o < qeN E) (u m : Int32) : d_X3_firstToWin σ (nI o) (u &&& (m ^^^ -1)) = some (σ, qwon E u m o) := by
  have hn := hC.1
  rw [← zwp_eq]
  unfold d_X3_firstToWin
  rw [nI_c0]
  refine zwp_for (fun f i (_ : Unit) => k_X3_firstToWin_11 f σ (nI o) (u &&& (m ^^^ -1)) (nI i)) (fun i _ => qany (qwnp E u m o) i = false) _ 0 (qeN E) (by omega) (by omega) ?_ ?_ () rfl
  · intro f i _ hi hI IH
    have h13 : ∀ j, j < qeN E → σ.1 13 (1 + 0) j = qeR E 1 j := fun j hj => hC.2.2.1 1 j (by omega) hj
    have h14 : ∀ j, j < qeN E → σ.1 14 (1 + 0) j = qeR E 2 j := fun j hj => hC.2.2.1 2 j (by omega) hj
    have hix : ∀ k, k < 12 → ∀ F : Nat → Option (zH × Int32), ix (nI k) 12 F = F k := fun k hk F => ix_nI hk (by omega)
    rw [k_X3_firstToWin_11, hC.2.1, if_pos (nI_lt hi (by omega))]
    simp only [hix i (by omega), hix o (by omega)]
    rw [h13 i hi, h13 o ho, h14 i hi, h14 o ho]
    have hb : ((u &&& (m ^^^ -1)) >>> (nI i &&& 31)) &&& 1 = b2i (bt u i && !bt m i) := by rw [bt_ask _ (by omega), b_and, bt_not _ (by omega)]
    have hno : qwnp E u m o i = false → zwp (k_X3_firstToWin_11 f σ (nI o) (u &&& (m ^^^ -1)) (nI i + 1)) (fun a => a = (σ, qwon E u m o)) := fun e => by
      rw [nI_1]; exact IH () (by rw [qany, hI, e]; rfl)
    have hyes : qsh E i o = true → zwp (j_X3_firstToWin_52 (k_X3_firstToWin_11 f) σ (nI o) (u &&& (m ^^^ -1)) (nI i)) (fun a => a = (σ, qwon E u m o)) := fun e => by
      unfold j_X3_firstToWin_52 j_X3_firstToWin_57
      rw [hb]
      refine zwp_if (fun q => hno ?_) (fun q => ?_)
      · rw [b2i_0] at q
        unfold qwnp
        rw [Bool.and_assoc, q, Bool.and_false]
      · rw [if_neg i10]
        have hp : qwnp E u m o i = true := by
          unfold qwnp
          rw [Bool.and_assoc, e, Bool.true_and]
          cases hh : (bt u i && !bt m i) with
          | true => rfl
          | false => rw [hh] at q; exact absurd rfl q
        refine zwp_some.mpr ?_
        unfold qwon
        rw [qfst_of hI hp hi, if_neg (ne_m1 (by omega))]
    refine zwp_if (fun e => hyes (by unfold qsh; rw [decide_eq_true e]; rfl)) (fun e => ?_)
    refine zwp_if (fun e2 => hyes (by unfold qsh; rw [decide_eq_true e2, Bool.or_true])) (fun e2 => ?_)
    have hp : qwnp E u m o i = false := by
      unfold qwnp qsh
      rw [decide_eq_false e, decide_eq_false e2]; rfl
    unfold j_X3_firstToWin_57
    refine zwp_if (fun _ => hno hp) (fun _ => ?_)
    rw [if_pos rfl]
    exact hno hp
  · intro f _ hI
    rw [k_X3_firstToWin_11, hC.2.1, if_neg (nI_nlt (Nat.le_refl _) (by omega))]
    refine zwp_some.mpr ?_
    unfold qwon
    rw [if_pos (qfst_no hI)]
theorem x3_mutinyOn (hC : rC σ 1 E) (m u : Int32) : d_X3_mutinyOn σ m u = some (σ, qspr E u m (qeN E)) := by
  have hn := hC.1
  rw [← zwp_eq]
  unfold d_X3_mutinyOn
  rw [nI_c0]
  refine zwp_for (fun f i (x : Int32) => k_X3_mutinyOn_5 f σ m u x (nI i)) (fun i x => x = qspr E u m i) _ 0 (qeN E) (by omega) (by omega) ?_ ?_ m rfl
  · rintro f i x hi rfl IH
    rw [k_X3_mutinyOn_5, hC.2.1, if_pos (nI_lt hi (by omega)), bt_ask _ (by omega), b_and, nI_1]
    refine zwp_if (fun e => IH _ ?_) (fun e => ?_)
    · rw [b2i_0] at e
      rw [qspr, e]; rfl
    · rw [x3_firstToWin hC hi]
      simp only [Option.bind_some]
      refine IH _ ?_
      have e2 : (bt m i && bt u i) = true := by
        cases hh : (bt m i && bt u i) with
        | true => rfl
        | false => rw [hh] at e; exact absurd rfl e
      rw [qspr, e2, if_pos rfl]
  · rintro f x rfl
    rw [k_X3_mutinyOn_5, hC.2.1, if_neg (nI_nlt (Nat.le_refl _) (by omega))]
    exact zwp_some.mpr rfl
theorem x3_menOfMutiny (hC : rC σ 1 E) {D : qD} {st len : Nat} (hl : st + len ≤ 192) (hU : ∀ k, k < st + len → σ.1 23 0 k = qU E D k) (c : Nat) : d_X3_menOfMutiny σ (nI c) (nI st) (nI len) = some (σ, qmenof E (qmut E D st (q1 c) len)) := by
  rw [← zwp_eq]
  unfold d_X3_menOfMutiny
  refine zwp_for (fun f i (x : Int32) => k_X3_menOfMutiny_8 j_X3_menOfMutiny_45 f σ (nI st) (nI len) x (nI i)) (fun i x => st ≤ i ∧ x = qmut E D st (q1 c) (i - st)) _ st (st + len) (by omega) (by omega) ?_ ?_ (q1 c) ⟨Nat.le_refl _, by rw [Nat.sub_self]; rfl⟩
  · rintro f i x hi ⟨h1, rfl⟩ IH
    rw [k_X3_menOfMutiny_8, nI_add, if_pos (nI_lt hi (by omega)), if_pos (show nI i < (192 : Int32) from nI_lt (b := 192) (by omega) (by omega)), ix_nI (by omega) (by omega), x3_mutinyOn hC, nI_1]
    simp only [Option.bind_some]
    refine IH _ ⟨by omega, ?_⟩
    rw [show i + 1 - st = (i - st) + 1 by omega, qmut, hU i hi, show st + (i - st) = i by omega]
  · rintro f x ⟨h1, rfl⟩
    rw [k_X3_menOfMutiny_8, nI_add, if_neg (nI_nlt (Nat.le_refl _) (by omega))]
    unfold j_X3_menOfMutiny_45
    rw [x0_menOf hC.2.1 hC.1]
    simp only [Option.bind_some]
    refine zwp_some.mpr ?_
    rw [show st + len - st = len by omega]
    refine congrArg (fun v => (σ, v)) ?_
    exact qsum_cong (fun i hi => by rw [show σ.1 12 (0 + 1) i = qeR E 0 i from hC.2.2.1 0 i (by omega) hi])
end
/-- a dream goes on: in the hall, then between the beds -/
def qhall (E : qE) (u s : Int32) : Int32 := s ||| qmask (fun c => bt u c && qany (fun o => bt s o && bt u o && decide (qeR E 1 c = qeR E 1 o)) (qeN E)) (qeN E)
def qbeds (E : qE) (s : Int32) : Int32 := s ||| qmask (fun c => qany (fun o => bt s o && decide (qeR E 2 c = qeR E 2 o)) (qeN E)) (qeN E)
def qtell (E : qE) (u s : Int32) : Int32 := qbeds E (qhall E u s)
def qdrm (E : qE) (D : qD) (s0 : Int32) : Nat → Int32
  | 0 => s0
  | k + 1 => qtell E (qU E D k) (qdrm E D s0 k)
section
variable {σ : zH} {E : qE}
theorem x3_alike {kd : Nat} (hkt : aT kd = 0) (hkn : aN kd = 12) (hn : qeN E ≤ 12) (h0 : σ.1 0 1 0 = nI (qeN E)) {r : Nat} (hr : ∀ j, j < qeN E → σ.1 kd 1 j = qeR E r j) {o : Nat} (ho : o < qeN E) : d_X3_alike σ kd 1 (nI o) = some (σ, qmask (fun c => decide (qeR E r c = qeR E r o)) (qeN E)) := by
  rw [← zwp_eq]
  unfold d_X3_alike
  rw [show k_X3_alike_5 zN σ kd 1 (nI o) (0 : Int32) (0 : Int32) = k_X3_alike_5 zN σ kd 1 (nI o) (0 : Int32) (nI 0) by rw [nI_0]]
  refine zwp_for (fun f i (x : Int32) => k_X3_alike_5 f σ kd 1 (nI o) x (nI i)) (fun i x => x = qmask (fun c => decide (qeR E r c = qeR E r o)) i) _ 0 (qeN E) (by omega) (by omega) ?_ ?_ 0 rfl
  · rintro f i x hi rfl IH
    have hgd : ∀ F : Option (zH × Int32), gd (aT kd == 0) F = F := fun F => by rw [hkt]; rfl
    rw [k_X3_alike_5, show σ.1 0 (0 + 1) 0 = nI (qeN E) from h0, if_pos (nI_lt hi (by omega)), hgd, hkn, ix_nI (by omega) (by omega), hgd, ix_nI (by omega) (by omega), hr i hi, hr o ho, nI_1]
    refine zwp_if (fun e => IH _ ?_) (fun e => IH _ ?_)
    · rw [qmask, decide_eq_true e]; rfl
    · rw [qmask, decide_eq_false e, if_neg (by decide)]
      exact (b_ext (fun j hj => by rw [b_or, b_0, Bool.or_false])).symm
  · rintro f x rfl
    rw [k_X3_alike_5, show σ.1 0 (0 + 1) 0 = nI (qeN E) from h0, if_neg (nI_nlt (Nat.le_refl _) (by omega))]
    exact zwp_some.mpr rfl
theorem x3_dreamOn (hC : rC σ 1 E) {D : qD} {k : Nat} (hk : k < 192) (hU : σ.1 23 0 k = qU E D k) (s : Int32) : d_X3_dreamOn σ s (nI k) = some (σ, qtell E (qU E D k) s) := by
  have hn := hC.1
  have h13 : ∀ j, j < qeN E → σ.1 13 1 j = qeR E 1 j := fun j hj => hC.2.2.1 1 j (by omega) hj
  have h14 : ∀ j, j < qeN E → σ.1 14 1 j = qeR E 2 j := fun j hj => hC.2.2.1 2 j (by omega) hj
  generalize qU E D k = u at hU
  rw [← zwp_eq]
  unfold d_X3_dreamOn
  rw [if_neg (nI_nneg (by omega)), if_pos (show nI k < (192 : Int32) from nI_lt (b := 192) hk (by omega)), nI_c0]
  refine zwp_for (fun f i (x : Int32) => k_X3_dreamOn_18 j_X3_dreamOn_81 f σ s (nI k) x (nI i)) (fun i x => ∀ j, j < 32 → bt x j = (bt s j || (decide (j < qeN E) && (bt u j && qany (fun o => bt s o && bt u o && decide (qeR E 1 j = qeR E 1 o)) i)))) _ 0 (qeN E) (by omega) (by omega) ?_ ?_ s (fun j hj => by rw [qany]; simp)
  · rintro f i x hi hx IH
    rw [k_X3_dreamOn_18, show σ.1 0 (0 + 1) 0 = nI (qeN E) from hC.2.1, if_pos (nI_lt hi (by omega)), ix_nI hk (by omega), ix_nI hk (by omega), hU, bt_ask _ (by omega), b_and, nI_1]
    refine zwp_if (fun e => IH _ (fun j hj => ?_)) (fun e => ?_)
    · rw [b2i_0] at e
      rw [hx j hj, qany, e, Bool.false_and, Bool.or_false]
    · rw [show (0 : Nat) + 1 + 0 = 1 from rfl, x3_alike (kd := 13) rfl rfl hn hC.2.1 h13 hi]
      simp only [Option.bind_some]
      refine IH _ (fun j hj => ?_)
      have e2 : (bt s i && bt u i) = true := by
        cases hh : (bt s i && bt u i) with
        | true => rfl
        | false => rw [hh] at e; exact absurd rfl e
      rw [b_or, hx j hj, b_and, bt_mask _ _ (by omega) j hj, qany, e2, Bool.true_and]
      cases bt s j <;> cases bt u j <;> cases decide (j < qeN E) <;> simp
  · rintro f x hx
    rw [k_X3_dreamOn_18, show σ.1 0 (0 + 1) 0 = nI (qeN E) from hC.2.1, if_neg (nI_nlt (Nat.le_refl _) (by omega))]
    have ex : x = qhall E u s := b_ext (fun j hj => by
      unfold qhall
      rw [hx j hj, b_or, bt_mask _ _ (by omega) j hj])
    subst ex
    unfold j_X3_dreamOn_81
    unfold qtell
    generalize qhall E u s = t
    rw [nI_c0]
    refine zwp_for (fun f i (x : Int32) => k_X3_dreamOn_87 f σ t x (nI i)) (fun i x => ∀ j, j < 32 → bt x j = (bt t j || (decide (j < qeN E) && qany (fun o => bt t o && decide (qeR E 2 j = qeR E 2 o)) i))) _ 0 (qeN E) (by omega) (by omega) ?_ ?_ t (fun j hj => by rw [qany]; simp)
    · rintro f i x hi hx2 IH
      rw [k_X3_dreamOn_87, show σ.1 0 (0 + 1) 0 = nI (qeN E) from hC.2.1, if_pos (nI_lt hi (by omega)), bt_ask _ (by omega), nI_1]
      refine zwp_if (fun e => IH _ (fun j hj => ?_)) (fun e => ?_)
      · rw [b2i_0] at e
        rw [hx2 j hj, qany, e, Bool.false_and, Bool.or_false]
      · rw [show (0 : Nat) + 1 + 0 = 1 from rfl, x3_alike (kd := 14) rfl rfl hn hC.2.1 h14 hi]
        simp only [Option.bind_some]
        refine IH _ (fun j hj => ?_)
        have e2 : bt t i = true := by
          cases hh : bt t i with
          | true => rfl
          | false => rw [hh] at e; exact absurd rfl e
        rw [b_or, hx2 j hj, bt_mask _ _ (by omega) j hj, qany, e2, Bool.true_and]
        cases bt t j <;> cases decide (j < qeN E) <;> simp
    · rintro f x hx2
      rw [k_X3_dreamOn_87, show σ.1 0 (0 + 1) 0 = nI (qeN E) from hC.2.1, if_neg (nI_nlt (Nat.le_refl _) (by omega))]
      refine zwp_some.mpr (congrArg (fun v => (σ, v)) (b_ext (fun j hj => ?_)))
      unfold qbeds
      rw [hx2 j hj, b_or, bt_mask _ _ (by omega) j hj]
end
