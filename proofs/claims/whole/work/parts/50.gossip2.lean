/-! CALLS: mutiny, crest -/
section
variable {W w : Int32} {σ : zH} {E : qE} {D : qD}
theorem bt_up (hn : qeN E ≤ 12) {c : Nat} (hc : c < qeN E) : bt (qmask (qup D) (qeN E)) c = qup D c := by
  rw [bt_mask _ _ (by omega) c (by omega), decide_eq_true hc, Bool.true_and]
theorem x11_wonBy (hC : rMC σ w E) (hS : rMS W σ E D) {o : Nat} (ho : o < qeN E) (m : Int32) : d_X11_wonBy σ (nI o) m = some (σ, qwon E (qmask (qup D) (qeN E)) m o) := by
  have hn := hC.1
  rw [← zwp_eq]
  unfold d_X11_wonBy
  rw [nI_c0]
  refine zwp_for (fun f i (_ : Unit) => k_X11_wonBy_2 f σ (nI o) m (nI i)) (fun i _ => qany (qwnp E (qmask (qup D) (qeN E)) m o) i = false) _ 0 (qeN E) (by omega) (by omega) ?_ ?_ () rfl
  · intro f i _ hi hI IH
    have h44 : ∀ j, j < qeN E → σ.1 44 0 j = qeR E 1 j := fun j hj => hC.2.2.1 1 j (by omega) hj
    have h45 : ∀ j, j < qeN E → σ.1 45 0 j = qeR E 2 j := fun j hj => hC.2.2.1 2 j (by omega) hj
    have h62 : σ.1 62 0 i = D 0 i := hS.2.2.2 0 i (by omega) hi
    have hix : ∀ k, k < 12 → ∀ F : Nat → Option (zH × Int32), ix (nI k) 12 F = F k := fun k hk F => ix_nI hk (by omega)
    have hno : qwnp E (qmask (qup D) (qeN E)) m o i = false → zwp (k_X11_wonBy_2 f σ (nI o) m (nI i + 1)) (fun a => a = (σ, qwon E (qmask (qup D) (qeN E)) m o)) := fun e => by
      rw [nI_1]; exact IH () (by rw [qany, hI, e]; rfl)
    rw [k_X11_wonBy_2, hC.2.1, if_pos (nI_lt hi (by omega)), has_eq _ _ (by omega)]
    simp only [Option.bind_some]
    refine zwp_if (fun e => ?_) (fun e => hno ?_)
    · rw [b2i_0] at e
      rw [hix i (by omega), h62]
      refine zwp_if (fun e2 => ?_) (fun e2 => hno ?_)
      · have hu : bt (qmask (qup D) (qeN E)) i = true := by rw [bt_up hn hi]; exact decide_eq_true e2
        have hyes : qsh E i o = true → zwp (some (σ, (1 : Int32) <<< (nI i &&& 31))) (fun a => a = (σ, qwon E (qmask (qup D) (qeN E)) m o)) := fun e3 => by
          have hp : qwnp E (qmask (qup D) (qeN E)) m o i = true := by unfold qwnp; rw [e3, hu, e]; rfl
          refine zwp_some.mpr ?_
          unfold qwon
          rw [qfst_of hI hp hi, if_neg (ne_m1 (by omega))]
        simp only [hix i (by omega), hix o (by omega)]
        rw [h44 i hi, h44 o ho, h45 i hi, h45 o ho]
        refine zwp_if (fun e3 => hyes (by unfold qsh; rw [decide_eq_true e3]; rfl)) (fun e3 => ?_)
        refine zwp_if (fun e4 => hyes (by unfold qsh; rw [decide_eq_true e4, Bool.or_true])) (fun e4 => hno ?_)
        unfold qwnp qsh
        rw [decide_eq_false e3, decide_eq_false e4]; rfl
      · have hu : bt (qmask (qup D) (qeN E)) i = false := by rw [bt_up hn hi]; exact decide_eq_false e2
        unfold qwnp
        rw [hu, Bool.and_false, Bool.false_and]
    · have e2 : bt m i = true := by
        cases hh : bt m i with
        | true => rfl
        | false => rw [hh] at e; exact absurd rfl e
      unfold qwnp
      rw [e2]
      exact Bool.and_false _
  · intro f _ hI
    rw [k_X11_wonBy_2, hC.2.1, if_neg (nI_nlt (Nat.le_refl _) (by omega))]
    refine zwp_some.mpr ?_
    unfold qwon
    rw [if_pos (qfst_no hI)]
end
theorem or_0 (x : Int32) : x ||| 0 = x := b_ext (fun j hj => by rw [b_or, b_0, Bool.or_false])
theorem m_mutineers {σm : zH} {r : Nat} {E : qE} {wt : Int32} {D : qD} {cl : List (Bool × List qop)} (hE : qeL E = qlaw cl) (hL : rML σm r cl) (h : rMP 0 σm (-1) E wt D) (hd : (D 7 0).toInt ≤ 9999) (c st len : Nat) (hs : st ≤ 96) (hl : len ≤ 96) :
    zwp (d_X11_mutineers σm (nI r) (nI c) (nI st) (nI len)) (fun p => msame σm p.1 ∧ p.2 = qmenof E (qmut E D st (q1 c) len)) := by
  have h00 := h.2.2.1.2.2.1
  have hn := h.1.1
  unfold d_X11_mutineers
  obtain ⟨σ1, f1, gK, gP, -⟩ := x11_keepsP h
  rw [f1]
  simp only [Option.bind_some]
  rw [nI_c0]
  refine zwp_for (fun f i (τ : zH) => k_X11_mutineers_7 j_X11_mutineers_24 f τ (nI r) (nI c) (nI st) (nI len) (nI i)) (fun i τ => rK σm τ ∧ rMP 0 τ (-1) E wt (qrun E i D)) _ 0 st (by omega) (by omega) ?_ ?_ σ1 ⟨gK, by rw [qrun]; exact gP⟩
  · rintro f i τ hi ⟨i1, i2⟩ IH
    have ht := qrun_70 E D i (by omega) (by omega)
    rw [k_X11_mutineers_7, if_pos (nI_lt hi (by omega))]
    obtain ⟨τ2, f2, w2, q2, -⟩ := x11_q hE (hL.K i1) i2 (by omega)
    rw [← qrun] at q2
    rw [f2]
    simp only [Option.bind_some]
    rw [nI_1]
    exact IH τ2 ⟨i1.step w2, q2⟩
  · rintro f τ ⟨i1, i2⟩
    rw [k_X11_mutineers_7, if_neg (nI_nlt (Nat.le_refl _) (by omega))]
    unfold j_X11_mutineers_24
    rw [nI_c0]
    refine zwp_for (fun f i (a : zH × Int32) => k_X11_mutineers_32 j_X11_mutineers_111 f a.1 (nI r) (nI len) a.2 (nI i)) (fun i a => rK σm a.1 ∧ rMP 0 a.1 (-1) E wt (qrun E (st + i) D) ∧ a.2 = qmut E D st (q1 c) i) _ 0 len (by omega) (by omega) ?_ ?_ (τ, q1 c) ⟨i1, i2, rfl⟩
    · rintro f i ⟨τ, m⟩ hi ⟨j1, j2, j3⟩ IH
      dsimp only at j1 j2 j3 ⊢
      subst j3
      have ht := qrun_70 E D (st + i) (by omega) (by omega)
      rw [k_X11_mutineers_32, if_pos (nI_lt hi (by omega))]
      obtain ⟨τ2, f2, w2, q2, -⟩ := x11_q hE (hL.K j1) j2 (by omega)
      rw [← qrun] at q2
      rw [f2]
      simp only [Option.bind_some]
      have hu : qmask (qup (qrun E (st + i + 1) D)) (qeN E) = qU E D (st + i) := rfl
      rw [nI_c0]
      generalize hm : qmut E D st (q1 c) i = m
      refine zwp_for (fun f' k (x : Int32) => k_X11_mutineers_51 (j_X11_mutineers_105 (k_X11_mutineers_32 j_X11_mutineers_111 f)) f' τ2 (nI r) (nI len) x (nI i) m (nI k)) (fun k x => x = qspr E (qU E D (st + i)) m k) _ 0 (qeN E) (by omega) (by omega) ?_ ?_ m rfl
      · rintro f' k x hk rfl IH2
        have h62 : τ2.1 62 0 k = qrun E (st + i + 1) D 0 k := q2.2.1.2.2.2 0 k (by omega) hk
        rw [k_X11_mutineers_51, q2.1.2.1, if_pos (nI_lt hk (by omega)), has_eq _ _ (by omega)]
        simp only [Option.bind_some]
        unfold j_X11_mutineers_95 j_X11_mutineers_96
        rw [nI_1, or_0, ix_nI (by omega) (by omega), h62]
        refine zwp_if (fun e => IH2 _ ?_) (fun e => ?_)
        · rw [b2i_0] at e
          rw [qspr, e, Bool.false_and, if_neg (by decide)]
        · have e2 : bt m k = true := by
            cases hh : bt m k with
            | true => rfl
            | false => rw [hh] at e; exact absurd rfl e
          refine zwp_if (fun e3 => ?_) (fun e3 => IH2 _ ?_)
          · rw [x11_wonBy q2.1 q2.2.1 hk, hu]
            simp only [Option.bind_some]
            refine IH2 _ ?_
            have e4 : bt (qU E D (st + i)) k = true := by rw [← hu, bt_up hn hk]; exact decide_eq_true e3
            rw [qspr, e2, e4, Bool.true_and, if_pos rfl]
          · have e4 : bt (qU E D (st + i)) k = false := by rw [← hu, bt_up hn hk]; exact decide_eq_false e3
            rw [qspr, e4, Bool.and_false, if_neg (by decide)]
      · rintro f' x rfl
        rw [k_X11_mutineers_51, q2.1.2.1, if_neg (nI_nlt (Nat.le_refl _) (by omega))]
        unfold j_X11_mutineers_105
        rw [nI_1]
        exact IH (_, _) ⟨j1.step w2, q2, by rw [qmut, hm]⟩
    · rintro f ⟨τ, m⟩ ⟨j1, j2, j3⟩
      dsimp only at j1 j2 j3 ⊢
      subst j3
      rw [k_X11_mutineers_32, if_neg (nI_nlt (Nat.le_refl _) (by omega))]
      unfold j_X11_mutineers_111
      refine zwp_to (x11_laysP j1) (fun υ hs => ?_)
      rw [x11_men (h.same hs).1]
      exact zwp_some.mpr ⟨hs, rfl⟩
theorem r_mutiny {σc σm : zH} (h : qR σc σm) (x y w z : Int32) : zrel (d_X10_mutiny σc x y w z) (d_X11_mutiny σm x y w z) qR := by
  obtain ⟨L, l1, l2, l3, -⟩ := h.2.1
  unfold d_X10_mutiny d_X11_mutiny
  rcases num_case x L (by omega) with hx | ⟨r, hr, rfl⟩
  · rw [x10_noLaw l2 hx, x11_noLaw l3 l1 hx]
    exact zrel_same h
  rw [x10_isLaw l2 l1 hr, x11_isLaw l3 l1 hr]
  simp only [Option.bind_some]
  rw [if_neg i10, if_neg i10]
  obtain ⟨E, wt, D, cl, hE, c1, c2, v⟩ := h.law l2 l1 hr
  have c0 : σc.1 0 1 0 = nI (qeN E) := v.1.1.2.1
  have m0 : σm.1 42 0 0 = nI (qeN E) := v.2.1.1.2.1
  have hn := v.1.1.1
  have hd := v.2.2.2.2.2.1
  rcases num_case y (qeN E) (by omega) with hy | ⟨c, hc, rfl⟩
  · rw [x10_noCompany c0 hy, x11_noCompany m0 hn hy]
    exact zrel_same h
  rw [x10_isCompany c0 hn hc, x11_isCompany m0 hn hc]
  simp only [Option.bind_some]
  rw [if_neg i10, if_neg i10]
  by_cases h1 : w < 0
  · rw [if_pos h1, in_0 (A := 0) (B := 96) 0 96 rfl rfl (Or.inl h1)]
    exact zrel_same h
  rw [if_neg h1]
  by_cases h2 : (96 : Int32) < w
  · rw [if_pos h2, in_0 (A := 0) (B := 96) 0 96 rfl rfl (Or.inr h2)]
    exact zrel_same h
  rw [if_neg h2, in_1 (A := 0) (B := 96) 0 96 rfl rfl h1 h2]
  simp only [Option.bind_some]
  rw [if_neg i10]
  by_cases h3 : z < 0
  · rw [if_pos h3, in_0 (A := 0) (B := 96) 0 96 rfl rfl (Or.inl h3)]
    exact zrel_same h
  rw [if_neg h3]
  by_cases h4 : (96 : Int32) < z
  · rw [if_pos h4, in_0 (A := 0) (B := 96) 0 96 rfl rfl (Or.inr h4)]
    exact zrel_same h
  rw [if_neg h4, in_1 (A := 0) (B := 96) 0 96 rfl rfl h3 h4]
  simp only [Option.bind_some]
  rw [if_neg i10]
  obtain ⟨st, hst, rfl⟩ := nI_of h1
  obtain ⟨len, hlen, rfl⟩ := nI_of h3
  rw [show (96 : Int32) = nI 96 from rfl, nI_ltI (by omega) hst] at h2
  rw [show (96 : Int32) = nI 96 from rfl, nI_ltI (by omega) hlen] at h4
  rw [ix_nI (by omega) (by omega), Nat.zero_add, show nI st + nI len = nI (st + len) from nI_add st len]
  obtain ⟨σ1, e1, z1, u1⟩ := c_foresee hE c1 v.1 hd (st + len) (by omega)
  rw [e1]
  simp only [Option.bind_some]
  have hC1 : rC σ1 1 E := (v.1.gc z1).1
  rw [x3_menOfMutiny hC1 (by omega) u1 c]
  obtain ⟨⟨σ3, vv⟩, e3, s3, e4⟩ := m_mutineers hE c2 v.2.1 hd c st len (by omega) (by omega)
  dsimp only at s3 e4
  subst e4
  rw [e3]
  exact zrel_same (h.cm z1 s3)
theorem qsum_rng {f : Nat → Int32} : ∀ n, n ≤ 12 → (∀ i, i < n → 0 ≤ (f i).toInt ∧ (f i).toInt ≤ 9999) → 0 ≤ (qsum f n).toInt ∧ (qsum f n).toInt ≤ 9999 * n
  | 0, _, _ => by rw [qsum, i32_0]; omega
  | n + 1, hn, h => by
    have a := qsum_rng n (by omega) (fun i hi => h i (by omega))
    have b := h n (by omega)
    rw [qsum, fb_addI (by omega) (by omega)]
    omega
theorem qmenof_0 {E : qE} (hn : qeN E ≤ 12) (hM : menOK (nI (qeN E)) (qeR E 0)) (x : Int32) : -1 < qmenof E x := by
  have a := qsum_rng (f := fun i => if bt x i then qeR E 0 i else 0) (qeN E) hn (fun i hi => by
    show 0 ≤ (if bt x i = true then qeR E 0 i else 0).toInt ∧ (if bt x i = true then qeR E 0 i else 0).toInt ≤ 9999
    split
    · exact hM _ i rfl hn hi
    · rw [i32_0]; omega)
  rw [fa_lt, i32_m1]
  unfold qmenof
  omega
/-- the highest so far, where -/
def qcr (f : Nat → Int32) : Nat → Int32 × Nat
  | 0 => (-1, 0)
  | k + 1 => if (qcr f k).1 < f k then (f k, k) else qcr f k
theorem r_crest {σc σm : zH} (h : qR σc σm) (x y w z u : Int32) : zrel (d_X10_crest σc x y w z u) (d_X11_crest σm x y w z u) qR := by
  obtain ⟨L, l1, l2, l3, -⟩ := h.2.1
  unfold d_X10_crest d_X11_crest
  rcases num_case x L (by omega) with hx | ⟨r, hr, rfl⟩
  · rw [x10_noLaw l2 hx, x11_noLaw l3 l1 hx]
    exact zrel_same h
  rw [x10_isLaw l2 l1 hr, x11_isLaw l3 l1 hr]
  simp only [Option.bind_some]
  rw [if_neg i10, if_neg i10]
  obtain ⟨E, wt, D, cl, hE, c1, c2, v⟩ := h.law l2 l1 hr
  have c0 : σc.1 0 1 0 = nI (qeN E) := v.1.1.2.1
  have m0 : σm.1 42 0 0 = nI (qeN E) := v.2.1.1.2.1
  have hn := v.1.1.1
  have hd := v.2.2.2.2.2.1
  rcases num_case y (qeN E) (by omega) with hy | ⟨c, hc, rfl⟩
  · rw [x10_noCompany c0 hy, x11_noCompany m0 hn hy]
    exact zrel_same h
  rw [x10_isCompany c0 hn hc, x11_isCompany m0 hn hc]
  simp only [Option.bind_some]
  rw [if_neg i10, if_neg i10]
  by_cases h1 : w < 0
  · rw [if_pos h1, in_0 (A := 0) (B := 48) 0 48 rfl rfl (Or.inl h1)]
    exact zrel_same h
  rw [if_neg h1]
  by_cases h2 : (48 : Int32) < w
  · rw [if_pos h2, in_0 (A := 0) (B := 48) 0 48 rfl rfl (Or.inr h2)]
    exact zrel_same h
  rw [if_neg h2, in_1 (A := 0) (B := 48) 0 48 rfl rfl h1 h2]
  simp only [Option.bind_some]
  rw [if_neg i10]
  by_cases h3 : z < 1
  · rw [if_pos h3, in_0 (A := 1) (B := 96) 1 96 rfl rfl (Or.inl h3)]
    exact zrel_same h
  rw [if_neg h3]
  by_cases h4 : (96 : Int32) < z
  · rw [if_pos h4, in_0 (A := 1) (B := 96) 1 96 rfl rfl (Or.inr h4)]
    exact zrel_same h
  rw [if_neg h4, in_1 (A := 1) (B := 96) 1 96 rfl rfl h3 h4]
  simp only [Option.bind_some]
  rw [if_neg i10]
  by_cases h5 : u < 0
  · rw [if_pos h5, in_0 (A := 0) (B := 1) 0 1 rfl rfl (Or.inl h5)]
    exact zrel_same h
  rw [if_neg h5]
  by_cases h6 : (1 : Int32) < u
  · rw [if_pos h6, in_0 (A := 0) (B := 1) 0 1 rfl rfl (Or.inr h6)]
    exact zrel_same h
  rw [if_neg h6, in_1 (A := 0) (B := 1) 0 1 rfl rfl h5 h6]
  simp only [Option.bind_some]
  rw [if_neg i10]
  obtain ⟨len, hlen, rfl⟩ := nI_of h1
  obtain ⟨T, hT1, hT, rfl⟩ := i32_lt1 h3
  rw [show (48 : Int32) = nI 48 from rfl, nI_ltI (by omega) hlen] at h2
  rw [show (96 : Int32) = nI 96 from rfl, nI_ltI (by omega) hT] at h4
  have hM : menOK (nI (qeN E)) (qeR E 0) := by
    have a := h.2.2.2.2.2 1 (by omega) (by omega)
    rw [c0] at a
    intro n i e q1 q2
    have e2 : qeN E = n := (nI_eq (by omega) (by omega)).mp e
    rw [← v.1.1.2.2.1 0 i (by omega) (by omega)]
    exact a n i e q1 q2
  rw [ix_nI (by omega) (by omega), Nat.zero_add, show nI T - 1 + nI len = nI (T - 1 + len) by rw [show T = (T - 1) + 1 by omega, nI_pred, nI_add]; rfl]
  obtain ⟨σ1, e1, z1, u1⟩ := c_foresee hE c1 v.1 hd (T - 1 + len) (by omega)
  rw [e1]
  simp only [Option.bind_some]
  have hC1 : rC σ1 1 E := (v.1.gc z1).1
  generalize hf : (fun k => qmenof E (qmut E D k (q1 c) len)) = f
  have hfk : ∀ k, qmenof E (qmut E D k (q1 c) len) = f k := fun k => by rw [← hf]
  have hf0 : ∀ k, -1 < f k := fun k => by rw [← hfk]; exact qmenof_0 hn hM _
  have hq0 : ∀ k, 0 < k → 0 < k := fun _ h => h
  refine zrel_of (P1 := fun σ => zsm Gc σc σ) (P2 := fun τ => msame σm τ) (v := if u = 0 then nI (qcr f T).2 else (qcr f T).1) ?_ ?_ (fun a b p q => h.cm p q)
  · rw [show k_X10_crest_82 j_X10_crest_123 zN σ1 (nI c) (nI len) (nI T) u (-1 : Int32) (-1 : Int32) (0 : Int32) = k_X10_crest_82 j_X10_crest_123 zN σ1 (nI c) (nI len) (nI T) u (-1 : Int32) (-1 : Int32) (nI 0) by rw [nI_0]]
    refine zwp_for (fun g i (a : Int32 × Int32) => k_X10_crest_82 j_X10_crest_123 g σ1 (nI c) (nI len) (nI T) u a.1 a.2 (nI i)) (fun i a => a.1 = (qcr f i).1 ∧ (0 < i → a.2 = nI (qcr f i).2)) _ 0 T (by omega) (by omega) ?_ ?_ (-1, -1) ⟨rfl, fun q => by omega⟩
    · rintro g i ⟨a, b⟩ hi ⟨ha, hb⟩ IH
      dsimp only at ha hb ⊢
      rw [k_X10_crest_82, if_pos (nI_lt hi (by omega)), x3_menOfMutiny hC1 (by omega) (fun k hk => u1 k (by omega)) c, hfk, nI_1]
      simp only [Option.bind_some]
      refine zwp_if (fun e => IH (_, _) ⟨?_, fun _ => ?_⟩) (fun e => IH (_, _) ⟨?_, fun _ => ?_⟩)
      · rw [qcr, if_pos (by rw [← ha]; exact e)]
      · rw [qcr, if_pos (by rw [← ha]; exact e)]; rfl
      · rw [qcr, if_neg (by rw [← ha]; exact e)]; exact ha
      · have h0 : 0 < i := Nat.pos_of_ne_zero (fun q => e (by rw [ha, q]; exact hf0 0))
        rw [qcr, if_neg (by rw [← ha]; exact e)]; exact hb h0
    · rintro g ⟨a, b⟩ ⟨ha, hb⟩
      dsimp only at ha hb ⊢
      rw [k_X10_crest_82, if_neg (nI_nlt (Nat.le_refl _) (by omega))]
      unfold j_X10_crest_123
      rw [ha, hb (by omega)]
      by_cases e : u = 0
      · rw [if_pos e, if_pos e]; exact zwp_some.mpr ⟨z1, rfl⟩
      · rw [if_neg e, if_neg e]; exact zwp_some.mpr ⟨z1, rfl⟩
  · rw [show k_X11_crest_63 j_X11_crest_119 zN σm (nI r) (nI c) (nI len) (nI T) u (0 : Int32) (-1 : Int32) (0 : Int32) = k_X11_crest_63 j_X11_crest_119 zN σm (nI r) (nI c) (nI len) (nI T) u (nI (qcr f 0).2) (qcr f 0).1 (nI 0) by rw [qcr, nI_0]]
    refine zwp_for (fun g i (τ : zH) => k_X11_crest_63 j_X11_crest_119 g τ (nI r) (nI c) (nI len) (nI T) u (nI (qcr f i).2) (qcr f i).1 (nI i)) (fun i τ => msame σm τ) _ 0 T (by omega) (by omega) ?_ ?_ σm (msame.rf σm)
    · rintro g i τ hi i1 IH
      rw [k_X11_crest_63, if_pos (nI_lt hi (by omega))]
      obtain ⟨⟨τ2, vv⟩, e3, s3, e4⟩ := m_mutineers hE (c2.same i1) (v.2.1.same i1) hd c i len (by omega) (by omega)
      dsimp only at s3 e4
      rw [hfk] at e4
      subst e4
      rw [e3]
      simp only [Option.bind_some]
      unfold j_X11_crest_95 j_X11_crest_111
      rw [nI_1]
      have s := i1.tr s3
      have hq := IH τ2 s
      by_cases e : (qcr f i).1 < f i
      · rw [if_pos e, if_pos e]
        rw [qcr, if_pos e] at hq
        exact hq
      · rw [if_neg e, if_neg e]
        rw [qcr, if_neg e] at hq
        exact hq
    · rintro g τ i1
      rw [k_X11_crest_63, if_neg (nI_nlt (Nat.le_refl _) (by omega))]
      unfold j_X11_crest_119
      by_cases e : u = 0
      · rw [if_pos e, if_pos e]; exact zwp_some.mpr ⟨i1, rfl⟩
      · rw [if_neg e, if_neg e]; exact zwp_some.mpr ⟨i1, rfl⟩
