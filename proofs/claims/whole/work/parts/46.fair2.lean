/-! CALLS: fair, whole -/
theorem x11_keeps89 {σ τ : zH} (h : d_X11_keeps σ = some τ) : τ.1 89 0 = σ.1 89 0 := by
  obtain ⟨τ', e, g⟩ := x11_keeps σ
  rw [h] at e
  cases e
  exact funext fun j => g.2.1 89 0 j (by omega)
theorem x11_lays89 {σ τ υ : zH} (h : d_X11_laysBack τ = some υ) (hk : rK σ τ) : υ.1 89 0 = τ.1 89 0 := by
  obtain ⟨τ', e, g⟩ := x11_laysBack hk.1
  rw [h] at e
  cases e
  exact funext fun j => g.2.1 89 0 j (by omega)
theorem m_fair {σm : zH} {r : Nat} {E : qE} {wt : Int32} {D : qD} {cl : List (Bool × List qop)} (hE : qeL E = qlaw cl) (hL : rML σm r cl) (h : rMP 0 σm (-1) E wt D) (hd : (D 7 0).toInt ≤ 9999) (n kw : Nat) (hn : n ≤ 192) (hk : kw < 3) (hN : 0 < qeN E) :
    zwp (k_X11_fair_46 j_X11_fair_67 zN σm (nI r) (nI n) (nI kw) (0 : Int32)) (fun p => msame σm p.1 ∧ p.2 = qfair E D n kw) := by
  have h12 := h.1.1
  have h00 := h.2.2.1.2.2.1
  rw [nI_c0]
  refine zwp_for (fun f i (τ : zH) => k_X11_fair_46 j_X11_fair_67 f τ (nI r) (nI n) (nI kw) (nI i)) (fun i τ => zsm (fun k _ => k = 89) σm τ ∧ ∀ c, c < i → τ.1 89 0 c = 0) _ 0 12 (by omega) (by omega) ?_ ?_ σm ⟨zsm.rf, fun c hc => by omega⟩
  · rintro f i τ hi ⟨i1, i2⟩ IH
    rw [k_X11_fair_46, if_pos (show nI i < (12 : Int32) from nI_lt (b := 12) hi (by omega)), ix_nI (by omega) (by omega), nI_1]
    refine zwp_let.mpr (IH _ ⟨i1.uI (k := 89) (i := 0) rfl i _, fun c hc => ?_⟩)
    rw [uI_1]
    by_cases e : c = i
    · rw [if_pos ⟨rfl, rfl, e⟩]
    · rw [if_neg (by omega)]; exact i2 c (by omega)
  · rintro f τ0 ⟨i1, i2⟩
    rw [k_X11_fair_46, if_neg (show ¬ nI 12 < (12 : Int32) from nI_nlt (b := 12) (by omega) (by omega))]
    unfold j_X11_fair_67
    have s0 : msame σm τ0 := ⟨fun k i hk => i1 k i (by omega), fun j _ => by rw [(i1 42 0 (by omega)).1], fun k a b j _ => by rw [(i1 k 0 (by omega)).1]⟩
    obtain ⟨τ1, f1, gK, gP, g42⟩ := x11_keepsP (h.same s0)
    rw [f1]
    simp only [Option.bind_some]
    rw [nI_c0]
    have k89 : τ1.1 89 0 = τ0.1 89 0 := x11_keeps89 f1
    refine zwp_for (fun f i (τ : zH) => k_X11_fair_74 j_X11_fair_128 f τ (nI r) (nI n) (nI kw) (nI i)) (fun i τ => rK τ0 τ ∧ rMP 0 τ (-1) E wt (qrun E i D) ∧ ∀ c, c < qeN E → τ.1 89 0 c = qslp E D c i) _ 0 n (by omega) (by omega) ?_ ?_ τ1 ⟨gK, by rw [qrun]; exact gP, fun c hc => by rw [k89]; exact i2 c (by omega)⟩
    · rintro f i τ hi ⟨j1, j2, j3⟩ IH
      have ht := qrun_70 E D i (by omega) (by omega)
      rw [k_X11_fair_74, if_pos (nI_lt hi (by omega))]
      obtain ⟨τ2, f2, w2, q2, -⟩ := x11_q hE ((hL.same s0).K j1) j2 (by omega)
      rw [← qrun] at q2
      rw [f2]
      simp only [Option.bind_some]
      rw [nI_c0]
      have e89 : ∀ c, τ2.1 89 0 c = τ.1 89 0 c := fun c => by rw [(w2 89 0 (by unfold FM; omega)).1]
      refine zwp_for (fun f' c (υ : zH) => k_X11_fair_88 (j_X11_fair_122 (k_X11_fair_74 j_X11_fair_128 f)) f' υ (nI r) (nI n) (nI kw) (nI i) (nI c)) (fun c υ => zsm (fun k _ => k = 89) τ2 υ ∧ (∀ c', c' < c → υ.1 89 0 c' = qslp E D c' (i + 1)) ∧ ∀ c', c ≤ c' → υ.1 89 0 c' = τ.1 89 0 c') _ 0 (qeN E) (by omega) (by omega) ?_ ?_ τ2 ⟨zsm.rf, fun c hc => by omega, fun c _ => e89 c⟩
      · rintro f' c υ hc ⟨u1, u2, u3⟩ IH2
        rw [k_X11_fair_88, (u1 42 0 (by omega)).1, q2.1.2.1, if_pos (nI_lt hc (by omega)), ix_nI (by omega) (by omega), ix_nI (by omega) (by omega), ix_nI (by omega) (by omega), nI_1]
        refine zwp_let.mpr (IH2 _ ⟨u1.uI (k := 89) (i := 0) rfl c _, fun c' hc' => ?_, fun c' hc' => ?_⟩)
        · rw [uI_1]
          by_cases e : c' = c
          · rw [if_pos ⟨rfl, rfl, e⟩, u3 c (Nat.le_refl _), j3 c hc, e, (u1 62 0 (by omega)).1, show τ2.1 62 0 c = qrun E (i + 1) D 0 c from q2.2.1.2.2.2 0 c (by omega) hc]
            rfl
          · rw [if_neg (by omega)]; exact u2 c' (by omega)
        · rw [uI_1, if_neg (by omega)]; exact u3 c' (by omega)
      · rintro f' υ ⟨u1, u2, u3⟩
        rw [k_X11_fair_88, (u1 42 0 (by omega)).1, q2.1.2.1, if_neg (nI_nlt (Nat.le_refl _) (by omega))]
        unfold j_X11_fair_122
        rw [nI_1]
        have kk := j1.step w2
        refine IH υ ⟨⟨⟨fun j hj => by rw [(u1 80 0 (by omega)).1]; exact kk.1.1 j hj, fun k a b j hj => by rw [(u1 (k + 19) 0 (by omega)).1]; exact kk.1.2 k a b j hj⟩, fun k ii hk => ?_⟩, q2.mvK (fun k hk => (u1 k 0 (by omega)).1) (fun j _ => by rw [(u1 42 0 (by omega)).1]) (fun k a b j _ => by rw [(u1 k 0 (by omega)).1]), fun c hc => u2 c hc⟩
        have a := u1 k ii (by omega)
        have b := kk.2 k ii hk
        exact ⟨a.1.trans b.1, a.2.trans b.2⟩
    · rintro f τ ⟨j1, j2, j3⟩
      rw [k_X11_fair_74, if_neg (nI_nlt (Nat.le_refl _) (by omega))]
      unfold j_X11_fair_128
      obtain ⟨τ3, f3, s3⟩ := x11_laysP j1
      have l89 : τ3.1 89 0 = τ.1 89 0 := x11_lays89 f3 j1
      have ss := s0.tr s3
      have n0 : τ3.1 42 0 0 = nI (qeN E) := (h.same ss).1.2.1
      have g3 : ∀ c, c < qeN E → τ3.1 89 0 c = qslp E D c n := fun c hc => by rw [l89]; exact j3 c hc
      rw [f3]
      simp only [Option.bind_some]
      generalize hg : (fun c => qslp E D c n) = g at *
      have hgc : ∀ c, qslp E D c n = g c := fun c => by rw [← hg]
      rw [show k_X11_fair_141 j_X11_fair_210 zN τ3 (nI kw) (0 : Int32) (0 : Int32) (1 : Int32) = k_X11_fair_141 j_X11_fair_210 zN τ3 (nI kw) (nI (qmost g 1)) (nI (qleast g 1)) (nI 1) by rw [qmost_1, qleast_1, nI_0, nI_one]]
      refine zwp_for (fun f c (_ : Unit) => k_X11_fair_141 j_X11_fair_210 f τ3 (nI kw) (nI (qmost g c)) (nI (qleast g c)) (nI c)) (fun c _ => 0 < c) _ 1 (qeN E) (by omega) (by omega) ?_ ?_ () (by omega)
      · intro f c _ hc h0 IH
        have m1 := qmost_lt g c h0
        have m2 := qleast_lt g c h0
        have hix : ∀ k, k < 12 → ∀ F : Nat → Option (zH × Int32), ix (nI k) 12 F = F k := fun k hk F => ix_nI hk (by omega)
        rw [k_X11_fair_141, n0, if_pos (nI_lt hc (by omega)), hix c (by omega), hix _ (by omega), g3 c hc, g3 _ (by omega), hgc, hgc]
        have hgo : ∀ x, x = nI (qmost g (c + 1)) → zwp (j_X11_fair_176 (k_X11_fair_141 j_X11_fair_210 f) τ3 (nI kw) (nI (qleast g c)) (nI c) x) (fun p => msame σm p.1 ∧ p.2 = qfair E D n kw) := fun x hx => by
          unfold j_X11_fair_176 j_X11_fair_202
          rw [hix c (by omega), hix _ (by omega), g3 c hc, g3 _ (by omega), hgc, hgc, hx, nI_1]
          refine zwp_if (fun e => ?_) (fun e => ?_)
          · have := IH () (by omega)
            rw [show qleast g (c + 1) = c by rw [qleast, if_pos e]] at this
            exact this
          · have := IH () (by omega)
            rw [show qleast g (c + 1) = qleast g c by rw [qleast, if_neg e]] at this
            exact this
        refine zwp_if (fun e => hgo _ ?_) (fun e => hgo _ ?_)
        · rw [qmost, if_pos e]
        · rw [qmost, if_neg e]
      · intro f _ h0
        have m1 := qmost_lt g (qeN E) hN
        have m2 := qleast_lt g (qeN E) hN
        have hix : ∀ k, k < 12 → ∀ F : Nat → Option (zH × Int32), ix (nI k) 12 F = F k := fun k hk F => ix_nI hk (by omega)
        rw [k_X11_fair_141, n0, if_neg (nI_nlt (Nat.le_refl _) (by omega))]
        unfold j_X11_fair_210
        rw [hix _ (by omega), hix _ (by omega), g3 _ m1, g3 _ m2]
        have : kw = 0 ∨ kw = 1 ∨ kw = 2 := by omega
        rcases this with rfl | rfl | rfl
        · rw [if_pos nI_0]
          exact zwp_some.mpr ⟨ss, by rw [← hg]; rfl⟩
        · rw [if_neg (by decide), if_pos nI_one]
          exact zwp_some.mpr ⟨ss, by rw [← hg]; rfl⟩
        · rw [if_neg (by decide), if_neg (by decide)]
          exact zwp_some.mpr ⟨ss, by rw [← hg]; rfl⟩
theorem r_fair {σc σm : zH} (h : qR σc σm) (x y w : Int32) : zrel (d_X10_fair σc x y w) (d_X11_fair σm x y w) qR := by
  obtain ⟨L, l1, l2, l3, -⟩ := h.2.1
  obtain ⟨E0, wt0, D0, v0⟩ := h.2.2.1
  have N0 := v0.1.1.1
  unfold d_X10_fair d_X11_fair
  rcases num_case x L (by omega) with hx | ⟨r, hr, rfl⟩
  · rw [x10_noLaw l2 hx, x11_noLaw l3 l1 hx]
    exact zrel_same h
  rw [x10_isLaw l2 l1 hr, x11_isLaw l3 l1 hr]
  simp only [Option.bind_some]
  rw [if_neg i10, if_neg i10, v0.2.1.1.2.1, show σc.1 0 (0 + 1) 0 = nI (qeN E0) from v0.1.1.2.1]
  have fin : ∀ P : Prop, P ∨ ¬ P := Classical.em
  by_cases h1 : y < 0
  · rw [if_pos h1, in_0 (A := 0) (B := 192) 0 192 rfl rfl (Or.inl h1)]
    simp only [Option.bind_some]
    by_cases e : nI (qeN E0) = 0
    · rw [if_pos e]; exact zrel_same h
    · rw [if_neg e]; exact zrel_same h
  rw [if_neg h1]
  by_cases h2 : (192 : Int32) < y
  · rw [if_pos h2, in_0 (A := 0) (B := 192) 0 192 rfl rfl (Or.inr h2)]
    simp only [Option.bind_some]
    by_cases e : nI (qeN E0) = 0
    · rw [if_pos e]; exact zrel_same h
    · rw [if_neg e]; exact zrel_same h
  rw [if_neg h2, in_1 (A := 0) (B := 192) 0 192 rfl rfl h1 h2]
  simp only [Option.bind_some]
  by_cases h3 : w < 0
  · rw [if_pos h3, in_0 (A := 0) (B := 2) 0 2 rfl rfl (Or.inl h3)]
    simp only [Option.bind_some]
    by_cases e : nI (qeN E0) = 0
    · rw [if_pos e]; exact zrel_same h
    · rw [if_neg e]; exact zrel_same h
  rw [if_neg h3]
  by_cases h4 : (2 : Int32) < w
  · rw [if_pos h4, in_0 (A := 0) (B := 2) 0 2 rfl rfl (Or.inr h4)]
    simp only [Option.bind_some]
    by_cases e : nI (qeN E0) = 0
    · rw [if_pos e]; exact zrel_same h
    · rw [if_neg e]; exact zrel_same h
  rw [if_neg h4, in_1 (A := 0) (B := 2) 0 2 rfl rfl h3 h4]
  simp only [Option.bind_some]
  by_cases e : nI (qeN E0) = 0
  · rw [if_pos e, if_pos e]; exact zrel_same h
  rw [if_neg e, if_neg e, if_neg i10, if_neg i10]
  have hN0 : 0 < qeN E0 := by
    cases hz : qeN E0 with
    | zero => rw [hz] at e; exact absurd nI_0 e
    | succ k => omega
  obtain ⟨n, hn, rfl⟩ := nI_of h1
  obtain ⟨kw, hk, rfl⟩ := nI_of h3
  rw [show (192 : Int32) = nI 192 from rfl, nI_ltI (by omega) hn] at h2
  rw [show (2 : Int32) = nI 2 from rfl, nI_ltI (by omega) hk] at h4
  obtain ⟨E, wt, D, cl, hE, c1, c2, v⟩ := h.law l2 l1 hr
  have hN : 0 < qeN E := by
    have a1 := v.1.1.2.1
    have a2 := v0.1.1.2.1
    rw [a1] at a2
    have := (nI_eq (by have := v.1.1.1; omega) (by omega)).mp a2
    omega
  rw [ix_nI (by omega) (by omega), Nat.zero_add]
  refine zrel_of (P1 := fun σ => zsm Gc σc σ) ?_ (m_fair hE c2 v.2.1 v.2.2.2.2.2.1 n kw (by omega) (by omega) hN) (fun a b p q => h.cm p q)
  refine zwp_to (c_fair hE c1 v.1 v.2.2.2.2.2.1 n (by omega) hN) (fun σ' hp => ?_)
  rw [ix_nI (by omega) (by omega)]
  exact zwp_some.mpr ⟨hp.1, hp.2 kw (by omega)⟩
