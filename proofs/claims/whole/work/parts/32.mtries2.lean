/-! THE REFERENCE: tries -/
def msame (σ τ : zH) : Prop := (∀ k i, ¬ (k = 42 ∨ (62 ≤ k ∧ k ≤ 69) ∨ (78 ≤ k ∧ k ≤ 89)) → τ.1 k i = σ.1 k i ∧ τ.2 k i = σ.2 k i) ∧ (∀ j, j < 11 → τ.1 42 0 j = σ.1 42 0 j) ∧ ∀ k, 62 ≤ k → k ≤ 69 → ∀ j, j < klen k → τ.1 k 0 j = σ.1 k 0 j
theorem msame.rf (σ : zH) : msame σ σ := ⟨fun _ _ _ => ⟨rfl, rfl⟩, fun _ _ => rfl, fun _ _ _ _ _ => rfl⟩
theorem msame.tr {σ τ υ : zH} (h : msame σ τ) (h2 : msame τ υ) : msame σ υ := ⟨fun k i hk => ⟨(h2.1 k i hk).1.trans (h.1 k i hk).1, (h2.1 k i hk).2.trans (h.1 k i hk).2⟩, fun j hj => (h2.2.1 j hj).trans (h.2.1 j hj), fun k h1 h3 j hj => (h2.2.2 k h1 h3 j hj).trans (h.2.2 k h1 h3 j hj)⟩
/-- kept, and the rest stands but what a quarter changes -/
def rK (σ0 τ : zH) : Prop := kept τ σ0 ∧ ∀ k i, ¬ (k = 42 ∨ (62 ≤ k ∧ k ≤ 69) ∨ (78 ≤ k ∧ k ≤ 89)) → τ.1 k i = σ0.1 k i ∧ τ.2 k i = σ0.2 k i
theorem rK.step {σ0 τ τ' : zH} (h : rK σ0 τ) (hz : zsm FM τ τ') : rK σ0 τ' := by
  refine ⟨⟨fun j hj => ?_, fun k h1 h2 j hj => ?_⟩, fun k i hk => ?_⟩
  · rw [(hz 80 0 (by unfold FM; omega)).1]; exact h.1.1 j hj
  · rw [(hz (k + 19) 0 (by unfold FM; omega)).1]; exact h.1.2 k h1 h2 j hj
  · have a := hz k i (by unfold FM; omega)
    have b := h.2 k i hk
    exact ⟨a.1.trans b.1, a.2.trans b.2⟩
theorem x11_laysP {σ0 τ : zH} (h : rK σ0 τ) : zwp (d_X11_laysBack τ) (msame σ0) := by
  refine zwp_mono (x11_laysBack h.1) (fun σ' g => ⟨fun k i hk => ?_, g.2.2.1, g.2.2.2⟩)
  have b := h.2 k i hk
  refine ⟨?_, by rw [g.1]; exact b.2⟩
  rw [← b.1]
  exact funext fun j => g.2.1 k i j (by omega)
theorem rMP.mvK {W w wt : Int32} {σ τ : zH} {E : qE} {D : qD} (h : rMP W σ w E wt D) (h1 : ∀ k, k = 11 ∨ (43 ≤ k ∧ k ≤ 51) → τ.1 k 0 = σ.1 k 0) (h2 : ∀ j, j < 11 → τ.1 42 0 j = σ.1 42 0 j) (h3 : ∀ k, 62 ≤ k → k ≤ 69 → ∀ j, j < klen k → τ.1 k 0 j = σ.1 k 0 j) : rMP W τ w E wt D := by
  obtain ⟨hC, hS, hO, hw⟩ := h
  have hn := hC.1
  refine ⟨?_, ⟨by rw [h2 4 (by omega)]; exact hS.1, by rw [h2 10 (by omega)]; exact hS.2.1, by rw [h2 7 (by omega)]; exact hS.2.2.1, fun r i hr hi => ?_⟩, hO, by rw [h2 3 (by omega)]; exact hw⟩
  · unfold rMC at hC ⊢
    rw [h1 11 (by omega), h1 47 (by omega), h1 48 (by omega), h1 49 (by omega), h1 50 (by omega), h1 51 (by omega), h2 0 (by omega), h2 1 (by omega), h2 2 (by omega), h2 8 (by omega)]
    exact ⟨hC.1, hC.2.1, fun r i hr hi => by rw [h1 (43 + r) (by omega)]; exact hC.2.2.1 r i hr hi, hC.2.2.2⟩
  · have hm := mrow_lt hr
    rw [h3 (mrow r) hm.1 hm.2.1 i (by unfold klen; rw [if_neg hm.2.2]; omega)]
    exact hS.2.2.2 r i hr hi
theorem rMP.same {W w wt : Int32} {σ τ : zH} {E : qE} {D : qD} (h : rMP W σ w E wt D) (hs : msame σ τ) : rMP W τ w E wt D :=
  h.mvK (fun k hk => (hs.1 k 0 (by omega)).1) hs.2.1 hs.2.2
theorem rML.same {σ τ : zH} {r : Nat} {cl : List (Bool × List qop)} (h : rML σ r cl) (hs : msame σ τ) : rML τ r cl := h.mv (fun k hk => (hs.1 k 0 (by omega)).1)
theorem rML.K {σ0 τ : zH} {r : Nat} {cl : List (Bool × List qop)} (h : rML σ0 r cl) (hs : rK σ0 τ) : rML τ r cl := h.mv (fun k hk => (hs.2 k 0 (by omega)).1)
theorem x11_keepsP {W w wt : Int32} {σ : zH} {E : qE} {D : qD} (h : rMP W σ w E wt D) : zwp (d_X11_keeps σ) (fun σ1 => rK σ σ1 ∧ rMP W σ1 w E wt D ∧ ∀ j, σ1.1 42 0 j = σ.1 42 0 j) := by
  refine zwp_mono (x11_keeps σ) (fun σ1 g => ⟨⟨g.2.2, fun k i hk => ⟨funext fun j => g.2.1 k i j (by omega), by rw [g.1]⟩⟩, ?_, fun j => g.2.1 _ _ _ (by omega)⟩)
  exact h.mvK (fun k hk => funext fun j => g.2.1 k 0 j (by omega)) (fun j _ => g.2.1 _ _ _ (by omega)) (fun k h1 h2 j _ => g.2.1 _ _ _ (by omega))
section
variable {W w wt : Int32} {E : qE} {r : Nat} {cl : List (Bool × List qop)}
theorem x11_q (hE : qeL E = qlaw cl) {D : qD} {σ : zH} (hL : rML σ r cl) (h : rMP W σ w E wt D) (hn : (D 7 0).toInt ≤ 20000) :
    zwp (d_X11_quarter σ (nI r)) (fun σ' => zsm FM σ σ' ∧ rMP W σ' w E wt (qqu E D) ∧ mst σ σ' wt (qmen E (qqu E D)) (D 7 0) (qmask (qup (qqu E D)) (qeN E))) := by
  obtain ⟨hC, hS, hO, hw⟩ := h
  refine zwp_mono (x11_quarter hE hC hL hS hO hn) (fun σ' g => ?_)
  obtain ⟨g1, g2, g3, g4, g5⟩ := g
  refine ⟨g1, ⟨hC.mv (fun k hk => (g1 k 0 (by unfold FM; omega)).1) g4, g2, g3, ?_⟩, by rw [← hw]; exact g5⟩
  rw [g4 3 (by omega) (by omega) (by omega) (by omega) (by omega) (by omega)]; exact hw
theorem qtr_70 (E : qE) (at_ : Nat) (D : qD) : ∀ n, n ≤ 20000 → (0 ≤ (D 7 0).toInt ∧ (D 7 0).toInt ≤ 20000) → (qtr E at_ n D 7 0).toInt = (D 7 0).toInt + n
  | 0, _, _ => by rw [qtr]; simp
  | n + 1, hn, h => by
    have ih := qtr_70 E at_ D n (by omega) h
    have hd : (if n = at_ then qdrum E (qtr E at_ n D) else qtr E at_ n D) 7 0 = qtr E at_ n D 7 0 := by
      split
      · exact qdrum_70 _ _ _
      · rfl
    rw [qtr, qqu_70, hd, fb_addI (by rw [i32_1]; omega) (by rw [i32_1]; omega), i32_1, ih]
    omega
theorem qtr_now (E : qE) (at_ : Nat) (D : qD) : ∀ n, qtr E at_ n D 7 0 = D 7 0 + nI n
  | 0 => by rw [qtr, nI_0, Int32.add_zero]
  | n + 1 => by
    have hd : (if n = at_ then qdrum E (qtr E at_ n D) else qtr E at_ n D) 7 0 = qtr E at_ n D 7 0 := by
      split
      · exact qdrum_70 _ _ _
      · rfl
    rw [qtr, qqu_70, hd, qtr_now E at_ D n, ← nI_1, Int32.add_assoc]
theorem x11_tries (hE : qeL E = qlaw cl) {D : qD} {σ : zH} (hL : rML σ r cl) (h : rMP W σ w E wt D) (hd : (D 7 0).toInt ≤ 10000) (hF : 0 ≤ (σ.1 42 0 5).toInt ∧ (σ.1 42 0 5).toInt ≤ 10000) (n : Nat) (hn : n ≤ 192) (at32 : Int32) (at_ : Nat) (hat : ∀ k, k < n → (nI k = at32 ↔ k = at_)) (what : Nat) (hw : what ≤ 4) :
    zwp (d_X11_tries σ (nI r) at32 (nI n) (nI what)) (fun p => msame σ p.1 ∧ p.2 = qout E wt at_ n D what) := by
  have h00 := h.2.2.1.2.2.1
  have hn12 := h.1.1
  unfold d_X11_tries
  refine zwp_to (x11_keepsP h) (fun σ1 g => ?_)
  obtain ⟨gK, gP, g42⟩ := g
  rw [x11_men gP.1, gP.1.2.1]
  simp only [Option.bind_some]
  have hall : qsum (fun i => if bt ((1 : Int32) <<< (nI (qeN E) &&& 31) - 1) i then qeR E 0 i else 0) (qeN E) = qall E := qsum_cong (fun i hi => by rw [bt_full _ (by omega) _ (by omega), decide_eq_true hi, if_pos rfl])
  rw [hall, show k_X11_tries_27 j_X11_tries_116 zN σ1 (nI r) at32 (nI n) (nI what) (qall E) (-2 : Int32) (0 : Int32) = k_X11_tries_27 j_X11_tries_116 zN σ1 (nI r) at32 (nI n) (nI what) (qall E) (-2 : Int32) (nI 0) by rw [nI_0]]
  refine zwp_for (fun f i (a : zH × Int32 × Int32) => k_X11_tries_27 j_X11_tries_116 f a.1 (nI r) at32 (nI n) (nI what) a.2.1 a.2.2 (nI i)) (fun i a => rK σ a.1 ∧ rMP W a.1 w E wt (qtr E at_ i D) ∧ a.1.1 42 0 5 = σ.1 42 0 5 + (qts E wt at_ i D (0, -2, qall E)).1 ∧ (0 ≤ (qts E wt at_ i D (0, -2, qall E)).1.toInt ∧ (qts E wt at_ i D (0, -2, qall E)).1.toInt ≤ i) ∧ a.2.1 = (qts E wt at_ i D (0, -2, qall E)).2.2 ∧
      ((a.2.2 = -2 ∧ (qts E wt at_ i D (0, -2, qall E)).2.1 = -2) ∨ ∃ j, j < i ∧ a.2.2 = nI j ∧ (qts E wt at_ i D (0, -2, qall E)).2.1 = D 7 0 + nI j)) _ 0 n (by omega) (by omega) ?_ ?_ (σ1, qall E, -2) ⟨gK, gP, by rw [g42]; exact (Int32.add_zero _).symm, ⟨(by show 0 ≤ (0 : Int32).toInt; decide), (by show (0 : Int32).toInt ≤ 0; decide)⟩, rfl, Or.inl ⟨rfl, rfl⟩⟩
  · rintro f i ⟨τ, x5, x6⟩ hi ⟨i1, i2, i3, i4, i5, i6⟩ IH
    dsimp only at i1 i2 i3 i4 i5 i6 ⊢
    have ht := qtr_70 E at_ D i (by omega) (by omega)
    have htn := qtr_now E at_ D i
    -- the step, from the state behind the drum
    have hstep : ∀ υ, rK σ υ → rMP W υ w E wt (if i = at_ then qdrum E (qtr E at_ i D) else qtr E at_ i D) → υ.1 42 0 5 = τ.1 42 0 5 →
        zwp (j_X11_tries_44 (k_X11_tries_27 j_X11_tries_116 f) υ (nI r) at32 (nI n) (nI what) x5 x6 (nI i)) (fun p => msame σ p.1 ∧ p.2 = qout E wt at_ n D what) := fun υ k1 k2 k3 => by
      have hd7 : (if i = at_ then qdrum E (qtr E at_ i D) else qtr E at_ i D) 7 0 = qtr E at_ i D 7 0 := by
        split
        · exact qdrum_70 _ _ _
        · rfl
      unfold j_X11_tries_44
      refine zwp_to (x11_q hE (hL.K k1) k2 (by rw [hd7]; omega)) (fun υ1 q => ?_)
      obtain ⟨q1, q2, q3⟩ := q
      have hq : qqu E (if i = at_ then qdrum E (qtr E at_ i D) else qtr E at_ i D) = qtr E at_ (i + 1) D := by rw [qtr]
      rw [hq] at q2 q3
      rw [x11_upSet q2.1 q2.2.1]
      simp only [Option.bind_some]
      rw [x11_menUp q2.1]
      simp only [Option.bind_some]
      have hm : ∀ x, x = zmn x5 (qmen E (qtr E at_ (i + 1) D)) → zwp (j_X11_tries_81 (k_X11_tries_27 j_X11_tries_116 f) υ1 (nI r) at32 (nI n) (nI what) x6 (nI i) (υ.1 42 0 5) x) (fun p => msame σ p.1 ∧ p.2 = qout E wt at_ n D what) := fun x hx => by
        have hqts : qts E wt at_ (i + 1) D (0, -2, qall E) = qst wt (qmen E (qtr E at_ (i + 1) D)) (qtr E at_ i D 7 0) (qts E wt at_ i D (0, -2, qall E)) := by rw [qts]
        generalize ha : qts E wt at_ i D (0, -2, qall E) = a at i3 i4 i5 i6 hqts
        have f5 := q3.1
        rw [k3, i3] at f5
        have hx2 : x = (qts E wt at_ (i + 1) D (0, -2, qall E)).2.2 := by rw [hqts, hx, i5]; rfl
        have hR := fb_rng (a.1)
        have hadd : (a.1 + 1).toInt = a.1.toInt + 1 := by rw [fb_addI (by rw [i32_1]; omega) (by rw [i32_1]; omega), i32_1]
        have hF1 : (σ.1 42 0 5 + a.1).toInt = (σ.1 42 0 5).toInt + a.1.toInt := fb_addI (by omega) (by omega)
        have hF2 : (σ.1 42 0 5 + a.1 + 1).toInt = (σ.1 42 0 5).toInt + a.1.toInt + 1 := by rw [fb_addI (by rw [i32_1, hF1]; omega) (by rw [i32_1, hF1]; omega), i32_1, hF1]
        -- both ways on
        have hgo : ∀ y, ((y = -2 ∧ (qts E wt at_ (i + 1) D (0, -2, qall E)).2.1 = -2) ∨ ∃ j, j < i + 1 ∧ y = nI j ∧ (qts E wt at_ (i + 1) D (0, -2, qall E)).2.1 = D 7 0 + nI j) →
            zwp (k_X11_tries_27 j_X11_tries_116 f υ1 (nI r) at32 (nI n) (nI what) x y (nI i + 1)) (fun p => msame σ p.1 ∧ p.2 = qout E wt at_ n D what) := fun y hy => by
          rw [nI_1]
          refine IH (υ1, x, y) ⟨k1.step q1, q2, ?_, ?_, hx2, hy⟩
          · show υ1.1 42 0 5 = _
            rw [f5, hqts]
            unfold qst
            dsimp only
            split
            · rw [Int32.add_assoc]
            · rfl
          · rw [hqts]
            unfold qst
            dsimp only
            split
            · omega
            · omega
        have hne : ∀ j, j < 20000 → D 7 0 + nI j ≠ -2 := fun j hj e => by
          have e1 := congrArg Int32.toInt e
          rw [fb_addI (by rw [nI_toInt (by omega)]; omega) (by rw [nI_toInt (by omega)]; omega), nI_toInt (by omega), i32_m2] at e1
          omega
        have h21 : (qts E wt at_ (i + 1) D (0, -2, qall E)).2.1 = (if qmen E (qtr E at_ (i + 1) D) < wt then (if a.2.1 = -2 then qtr E at_ i D 7 0 else a.2.1) else a.2.1) := by rw [hqts]; rfl
        unfold j_X11_tries_81 j_X11_tries_106 j_X11_tries_108
        rw [f5, k3, i3]
        refine zwp_if (fun e6 => ?_) (fun e6 => ?_)
        · have e21 : a.2.1 = -2 := by
            rcases i6 with ⟨-, e⟩ | ⟨j, hj, e, -⟩
            · exact e
            · rw [e6] at e
              have := congrArg Int32.toInt e
              rw [nI_toInt (by omega), i32_m2] at this
              omega
          refine zwp_if (fun e8 => ?_) (fun e8 => ?_)
          · have hlt : qmen E (qtr E at_ (i + 1) D) < wt := Classical.byContradiction fun hc => by
              rw [if_neg hc, fa_lt] at e8
              omega
            refine hgo (nI i) (Or.inr ⟨i, by omega, rfl, ?_⟩)
            rw [h21, if_pos hlt, if_pos e21, htn]
          · have hlt : ¬ qmen E (qtr E at_ (i + 1) D) < wt := fun hc => by
              rw [if_pos hc, fa_lt, hF1, hF2] at e8
              omega
            refine hgo x6 (Or.inl ⟨e6, ?_⟩)
            rw [h21, if_neg hlt, e21]
        · rcases i6 with ⟨e, -⟩ | ⟨j, hj, e, e2⟩
          · exact absurd e e6
          · refine hgo x6 (Or.inr ⟨j, by omega, e, ?_⟩)
            rw [h21, e2, if_neg (hne j (by omega))]
            split <;> rfl
      refine zwp_if (fun e => hm _ ?_) (fun e => hm _ ?_)
      · unfold zmn; rw [if_pos e]
      · unfold zmn; rw [if_neg e]
    rw [k_X11_tries_27, if_pos (nI_lt hi (by omega))]
    refine zwp_if (fun e => ?_) (fun e => ?_)
    · have e2 := (hat i hi).mp e
      refine zwp_to (x11_drum i2) (fun p q => hstep p.1 (i1.step q.1.1) ?_ ?_)
      · rw [if_pos e2]; exact q.2.1
      · exact q.1.2.2.2.1 5 (by omega) (by omega) (by omega)
    · have e2 : ¬ i = at_ := fun q => e ((hat i hi).mpr q)
      exact hstep τ i1 (by rw [if_neg e2]; exact i2) rfl
  · rintro f ⟨τ, x5, x6⟩ ⟨i1, i2, i3, i4, i5, i6⟩
    dsimp only at i1 i2 i3 i4 i5 i6 ⊢
    rw [k_X11_tries_27, if_neg (nI_nlt (Nat.le_refl _) (by omega))]
    unfold j_X11_tries_116
    rw [show k_X11_tries_122 j_X11_tries_151 zN τ (nI what) x5 x6 (0 : Int32) (0 : Int32) = k_X11_tries_122 j_X11_tries_151 zN τ (nI what) x5 x6 (0 : Int32) (nI 0) by rw [nI_0]]
    refine zwp_for (fun f i (a : Int32) => k_X11_tries_122 j_X11_tries_151 f τ (nI what) x5 x6 a (nI i)) (fun i a => a = qsum (fun i => qtr E at_ n D 1 i) i) _ 0 (qeN E) (by omega) (by omega) ?_ ?_ _ rfl
    · rintro f i _ hi rfl IH
      rw [k_X11_tries_122, i2.1.2.1, if_pos (nI_lt hi (by omega)), ix_nI (by omega) (by omega), show τ.1 63 0 i = qtr E at_ n D 1 i from i2.2.1.2.2.2 1 i (by omega) hi, nI_1]
      exact IH _ rfl
    · rintro f _ rfl
      rw [k_X11_tries_122, i2.1.2.1, if_neg (nI_nlt (Nat.le_refl _) (by omega))]
      unfold j_X11_tries_151
      refine zwp_to (x11_laysP i1) (fun σ9 hs => ?_)
      have k5 : τ.1 80 0 5 = σ.1 42 0 5 := i1.1.1 5 (by omega)
      have k7 : τ.1 80 0 7 = σ.1 42 0 7 := i1.1.1 7 (by omega)
      rw [k5, k7, i3, i2.2.1.2.2.1, h.2.1.2.2.1]
      have h5 : σ.1 42 0 5 + (qts E wt at_ n D (0, -2, qall E)).1 - σ.1 42 0 5 = (qts E wt at_ n D (0, -2, qall E)).1 := by
        rw [Int32.add_comm, Int32.add_sub_cancel]
      have h7 : W + qtr E at_ n D 7 2 - (W + D 7 2) = qtr E at_ n D 7 2 - D 7 2 := by
        rw [Int32.sub_eq_add_neg, Int32.sub_eq_add_neg, Int32.neg_add, Int32.sub_eq_add_neg]
        have : W + qtr E at_ n D 7 2 + (-W + -D 7 2) = qtr E at_ n D 7 2 + -D 7 2 + (W + -W) := by ac_rfl
        rw [this, Int32.add_right_neg, Int32.add_zero]
      rw [h5, h7]
      have hwh : what = 0 ∨ what = 1 ∨ what = 2 ∨ what = 3 ∨ what = 4 := by omega
      rcases hwh with rfl | rfl | rfl | rfl | rfl
      · rw [if_pos (by decide)]; exact zwp_some.mpr ⟨hs, i5⟩
      · rw [if_neg (by decide), if_pos (by decide)]; exact zwp_some.mpr ⟨hs, rfl⟩
      · rw [if_neg (by decide), if_neg (by decide), if_pos (by decide)]
        refine zwp_some.mpr ⟨hs, ?_⟩
        show x6 = if (qts E wt at_ n D (0, -2, qall E)).2.1 = -2 then -2 else (qts E wt at_ n D (0, -2, qall E)).2.1 - D 7 0
        rcases i6 with ⟨e1, e2⟩ | ⟨j, hj, e1, e2⟩
        · rw [if_pos e2, e1]
        · rw [e2, if_neg, e1, Int32.add_comm, Int32.add_sub_cancel]
          intro e
          have e3 := congrArg Int32.toInt e
          rw [fb_addI (by rw [nI_toInt (by omega)]; omega) (by rw [nI_toInt (by omega)]; omega), nI_toInt (by omega), i32_m2] at e3
          omega
      · rw [if_neg (by decide), if_neg (by decide), if_neg (by decide), if_pos (by decide)]; exact zwp_some.mpr ⟨hs, rfl⟩
      · rw [if_neg (by decide), if_neg (by decide), if_neg (by decide), if_neg (by decide)]; exact zwp_some.mpr ⟨hs, rfl⟩
end
