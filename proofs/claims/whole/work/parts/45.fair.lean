/-! CALLS: bestLaw, fair -/
theorem zrel_loopA {γ : Type} (k1 k2 : Nat → Nat → zH → γ → Option (zH × Int32)) (I : Nat → zH → zH → γ → Prop) (Q : zH → zH → Prop) (n : Nat)
    (step : ∀ f g i a b c, i < n → I i a b c → ∃ a' b' c', I (i + 1) a' b' c' ∧ k1 (f + 1) i a c = k1 f (i + 1) a' c' ∧ k2 (g + 1) i b c = k2 g (i + 1) b' c')
    (done : ∀ f g a b c, I n a b c → zrel (k1 (f + 1) n a c) (k2 (g + 1) n b c) Q) : ∀ (d i f g : Nat) (a b : zH) (c : γ), i + d = n → d < f → d < g → I i a b c → zrel (k1 f i a c) (k2 g i b c) Q
  | 0, i, f, g, a, b, c, h, hf, hg, hI => by
    have e : i = n := by omega
    subst e
    obtain ⟨f, rfl⟩ : ∃ f', f = f' + 1 := ⟨f - 1, by omega⟩
    obtain ⟨g, rfl⟩ : ∃ g', g = g' + 1 := ⟨g - 1, by omega⟩
    exact done f g a b c hI
  | d + 1, i, f, g, a, b, c, h, hf, hg, hI => by
    obtain ⟨f, rfl⟩ : ∃ f', f = f' + 1 := ⟨f - 1, by omega⟩
    obtain ⟨g, rfl⟩ : ∃ g', g = g' + 1 := ⟨g - 1, by omega⟩
    obtain ⟨a', b', c', h1, h2, h3⟩ := step f g i a b c (by omega) hI
    rw [h2, h3]
    exact zrel_loopA k1 k2 I Q n step done d (i + 1) f g a' b' c' (by omega) (by omega) (by omega) h1
theorem zrel_forA {γ : Type} (k1 k2 : Nat → Nat → zH → γ → Option (zH × Int32)) (I : Nat → zH → zH → γ → Prop) (Q : zH → zH → Prop) (n : Nat) (hn : n < 4000)
    (step : ∀ f g i a b c, i < n → I i a b c → ∃ a' b' c', I (i + 1) a' b' c' ∧ k1 (f + 1) i a c = k1 f (i + 1) a' c' ∧ k2 (g + 1) i b c = k2 g (i + 1) b' c')
    (done : ∀ f g a b c, I n a b c → zrel (k1 (f + 1) n a c) (k2 (g + 1) n b c) Q) (a b : zH) (c : γ) (h0 : I 0 a b c) : zrel (k1 zN 0 a c) (k2 zN 0 b c) Q :=
  zrel_loopA k1 k2 I Q n step done n 0 zN zN a b c (by omega) (by rw [zN_eq]; omega) (by rw [zN_eq]; omega) h0
theorem r_bestLaw {σc σm : zH} (h : qR σc σm) (y : Int32) : zrel (d_X10_bestLaw σc y) (d_X11_bestLaw σm y) qR := by
  obtain ⟨L, l1, l2, l3, -⟩ := h.2.1
  unfold d_X10_bestLaw d_X11_bestLaw
  by_cases h1 : y < 0
  · rw [if_pos h1, in_0 (A := 0) (B := 192) 0 192 rfl rfl (Or.inl h1)]
    exact zrel_same h
  rw [if_neg h1]
  by_cases h2 : (192 : Int32) < y
  · rw [if_pos h2, in_0 (A := 0) (B := 192) 0 192 rfl rfl (Or.inr h2)]
    exact zrel_same h
  rw [if_neg h2, in_1 (A := 0) (B := 192) 0 192 rfl rfl h1 h2]
  simp only [Option.bind_some]
  rw [if_neg i10]
  obtain ⟨n, hn, rfl⟩ := nI_of h1
  rw [show (192 : Int32) = nI 192 from rfl, nI_ltI (by omega) hn] at h2
  rw [show k_X10_bestLaw_24 zN σc (nI n) (-2 : Int32) (0 : Int32) (0 : Int32) (0 : Int32) = k_X10_bestLaw_24 zN σc (nI n) (-2 : Int32) (0 : Int32) (0 : Int32) (nI 0) by rw [nI_0], show k_X11_bestLaw_25 zN σm (nI n) (-2 : Int32) (0 : Int32) (0 : Int32) (0 : Int32) = k_X11_bestLaw_25 zN σm (nI n) (-2 : Int32) (0 : Int32) (0 : Int32) (nI 0) by rw [nI_0]]
  refine zrel_forA (fun f i a (c : Int32 × Int32 × Int32) => k_X10_bestLaw_24 f a (nI n) c.1 c.2.1 c.2.2 (nI i)) (fun f i b c => k_X11_bestLaw_25 f b (nI n) c.1 c.2.1 c.2.2 (nI i)) (fun i a b _ => zsm Gc σc a ∧ msame σm b) qR L (by omega) ?_ ?_ σc σm (-2, 0, 0) ⟨zsm.rf, msame.rf σm⟩
  · rintro f g i a b ⟨x2, x3, x4⟩ hi ⟨i1, i2⟩
    dsimp only
    obtain ⟨E, wt, D, cl, hE, c1, c2, v⟩ := h.law l2 l1 hi
    obtain ⟨σ2, e2, z2, o2⟩ := c_ahead hE c1 v.1 v.2.2.2.2.2.1 i1 n (by omega)
    obtain ⟨σ3, e3, s3⟩ := m_tries hE c2 v.2.1 v.2.2.2.2.2.1 v.2.2.2.1 i2 n (by omega) (-1) n (hat_none n (by omega)) 1 (by omega)
    obtain ⟨σ4, e4, s4⟩ := m_tries hE c2 v.2.1 v.2.2.2.2.2.1 v.2.2.2.1 s3 n (by omega) (-1) n (hat_none n (by omega)) 3 (by omega)
    have ec : a.1 10 0 5 = nI L := by rw [(i1 10 0 (by unfold Gc; omega)).1]; exact l2
    have em : b.1 11 0 34 = nI L := by rw [(i2.1 11 0 (by omega)).1]; exact l3
    have o21 := o2 1 (by omega)
    have o23 := o2 3 (by omega)
    rw [show nI 1 = (1 : Int32) from nI_one] at o21 e3
    rw [show nI 3 = (3 : Int32) from rfl] at o23 e4
    generalize qout E wt n n D 1 = A at o21 e3
    generalize qout E wt n n D 3 = B at o23 e4
    rw [k_X10_bestLaw_24, k_X11_bestLaw_25, ec, em, if_pos (nI_lt hi (by omega)), if_pos (nI_lt hi (by omega)), ix_nI (by omega) (by omega), Nat.zero_add, e2, e3]
    simp only [Option.bind_some]
    rw [o21, e4]
    simp only [Option.bind_some]
    rw [o23]
    simp only [Option.bind_some]
    unfold j_X10_bestLaw_93 j_X11_bestLaw_81
    rw [nI_1]
    by_cases q1 : x2 = -2
    · rw [if_pos q1, if_pos q1]
      exact ⟨σ2, σ4, (nI i, A, B), ⟨z2, s4⟩, rfl, rfl⟩
    · rw [if_neg q1, if_neg q1]
      by_cases q2 : A < x3
      · rw [if_pos q2, if_pos q2]
        exact ⟨σ2, σ4, (nI i, A, B), ⟨z2, s4⟩, rfl, rfl⟩
      · rw [if_neg q2, if_neg q2]
        by_cases q3 : A = x3
        · rw [if_pos q3, if_pos q3]
          by_cases q4 : B < x4
          · rw [if_pos q4, if_pos q4]
            exact ⟨σ2, σ4, (nI i, A, B), ⟨z2, s4⟩, rfl, rfl⟩
          · rw [if_neg q4, if_neg q4]
            exact ⟨σ2, σ4, (x2, x3, x4), ⟨z2, s4⟩, rfl, rfl⟩
        · rw [if_neg q3, if_neg q3]
          exact ⟨σ2, σ4, (x2, x3, x4), ⟨z2, s4⟩, rfl, rfl⟩
  · rintro f g a b ⟨x2, x3, x4⟩ ⟨i1, i2⟩
    dsimp only
    have ec : a.1 10 0 5 = nI L := by rw [(i1 10 0 (by unfold Gc; omega)).1]; exact l2
    have em : b.1 11 0 34 = nI L := by rw [(i2.1 11 0 (by omega)).1]; exact l3
    rw [k_X10_bestLaw_24, k_X11_bestLaw_25, ec, em, if_neg (nI_nlt (Nat.le_refl _) (by omega)), if_neg (nI_nlt (Nat.le_refl _) (by omega))]
    exact zrel_same (h.cm i1 i2)
/-- who slept most, who least -/
def qmost (f : Nat → Int32) : Nat → Nat
  | 0 => 0
  | c + 1 => if f (qmost f c) < f c then c else qmost f c
def qleast (f : Nat → Int32) : Nat → Nat
  | 0 => 0
  | c + 1 => if f c < f (qleast f c) then c else qleast f c
theorem qmost_lt (f : Nat → Int32) : ∀ n, 0 < n → qmost f n < n
  | 0, h => by omega
  | n + 1, _ => by
    rw [qmost]
    split
    · omega
    · cases n with
      | zero => rw [qmost]; omega
      | succ n => have := qmost_lt f (n + 1) (by omega); omega
theorem qleast_lt (f : Nat → Int32) : ∀ n, 0 < n → qleast f n < n
  | 0, h => by omega
  | n + 1, _ => by
    rw [qleast]
    split
    · omega
    · cases n with
      | zero => rw [qleast]; omega
      | succ n => have := qleast_lt f (n + 1) (by omega); omega
theorem lt_irr (x : Int32) : ¬ x < x := by rw [fa_lt]; omega
theorem qmost_1 (f : Nat → Int32) : qmost f 1 = 0 := by rw [qmost, qmost, if_neg (lt_irr _)]
theorem qleast_1 (f : Nat → Int32) : qleast f 1 = 0 := by rw [qleast, qleast, if_neg (lt_irr _)]
/-- in how many of the first n quarters c was asleep -/
def qslp (E : qE) (D : qD) (c : Nat) (n : Nat) : Int32 := qsum (fun k => qrun E (k + 1) D 0 c) n
/-- FAIR's answers -/
def qfair (E : qE) (D : qD) (n : Nat) (what : Nat) : Int32 := match what with
  | 0 => nI (qmost (fun c => qslp E D c n) (qeN E))
  | 1 => nI (qleast (fun c => qslp E D c n) (qeN E))
  | _ => qslp E D (qmost (fun c => qslp E D c n) (qeN E)) n - qslp E D (qleast (fun c => qslp E D c n) (qeN E)) n
theorem c_fair {σc : zH} {r : Nat} {E : qE} {wt : Int32} {D : qD} {cl : List (Bool × List qop)} (hE : qeL E = qlaw cl) (hL : rL σc r cl) (h : rP 0 σc 0 E wt D) (hd : (D 7 0).toInt ≤ 9999) (n : Nat) (hn : n ≤ 192) (hN : 0 < qeN E) :
    zwp (d_X2_findFair σc r (nI n)) (fun σ' => zsm Gc σc σ' ∧ ∀ k, k < 3 → σ'.1 22 0 k = qfair E D n k) := by
  have h12 := h.1.1
  have h00 := h.2.2.1.2.2.1
  unfold d_X2_findFair
  refine zwp_to (x2_restart h) (fun σ1 g => ?_)
  obtain ⟨z1, p1, -⟩ := g
  have e0 : σ1.1 0 (0 + 1) 0 = nI (qeN E) := by rw [(z1 0 (0 + 1) (by unfold Fs F8; omega)).1]; exact h.1.2.1
  rw [e0, nI_c0]
  refine zwp_for (fun f i (τ : zH) => k_X2_findFair_18 j_X2_findFair_38 f τ r (nI n) (nI (qeN E)) (nI i)) (fun i τ => zsm (fun k _ => k = 21) σ1 τ ∧ ∀ c, c < i → τ.1 21 0 c = 0) _ 0 (qeN E) (by omega) (by omega) ?_ ?_ σ1 ⟨zsm.rf, fun c hc => by omega⟩
  · rintro f i τ hi ⟨i1, i2⟩ IH
    rw [k_X2_findFair_18, if_pos (nI_lt hi (by omega)), ix_nI (by omega) (by omega), nI_1]
    refine zwp_let.mpr (IH _ ⟨i1.uI (k := 21) (i := 0) rfl i _, fun c hc => ?_⟩)
    rw [uI_1]
    by_cases e : c = i
    · rw [if_pos ⟨rfl, rfl, e⟩]
    · rw [if_neg (by omega)]; exact i2 c (by omega)
  · rintro f τ0 ⟨i1, i2⟩
    rw [k_X2_findFair_18, if_neg (nI_nlt (Nat.le_refl _) (by omega))]
    unfold j_X2_findFair_38
    rw [nI_c0]
    have zc0 : zsm Gc σc τ0 := (z1.mono (fun _ _ q => Fs5_Gc q)).tr (i1.mono (fun k i q => by unfold Gc; omega))
    have p0 : rP (-(D 7 2)) τ0 5 E wt D := p1.mvF (fun k hk => (i1 k _ (by omega)).1) (fun k hk => (i1 k _ (by omega)).1)
    refine zwp_for (fun f i (τ : zH) => k_X2_findFair_41 j_X2_findFair_104 f τ r (nI n) (nI (qeN E)) (nI i)) (fun i τ => zsm Gc σc τ ∧ rP (-(D 7 2)) τ 5 E wt (qrun E i D) ∧ ∀ c, c < qeN E → τ.1 21 0 c = qslp E D c i) _ 0 n (by omega) (by omega) ?_ ?_ τ0 ⟨zc0, by rw [qrun]; exact p0, fun c hc => i2 c hc⟩
    · rintro f i τ hi ⟨j1, j2, j3⟩ IH
      have ht := qrun_70 E D i (by omega) (by omega)
      rw [k_X2_findFair_41, if_pos (nI_lt hi (by omega))]
      obtain ⟨τ1, f1, w1, q1, -⟩ := x8_pass hE (hL.gc j1) j2 1 (by omega) (by omega)
      rw [nI_one] at f1
      have hq1 : qrun E 1 (qrun E i D) = qrun E (i + 1) D := by rw [qrun, qrun, qrun]
      rw [hq1] at q1
      rw [f1]
      simp only [Option.bind_some]
      rw [nI_c0]
      have e21 : ∀ c, τ1.1 21 0 c = τ.1 21 0 c := fun c => by rw [(w1 21 0 (by unfold F8; omega)).1]
      refine zwp_for (fun f' c (υ : zH) => k_X2_findFair_59 (j_X2_findFair_98 (k_X2_findFair_41 j_X2_findFair_104 f)) f' υ r (nI n) (nI (qeN E)) (nI i) (nI c)) (fun c υ => zsm (fun k _ => k = 21) τ1 υ ∧ (∀ c', c' < c → υ.1 21 0 c' = qslp E D c' (i + 1)) ∧ ∀ c', c ≤ c' → υ.1 21 0 c' = τ.1 21 0 c') _ 0 (qeN E) (by omega) (by omega) ?_ ?_ τ1 ⟨zsm.rf, fun c hc => by omega, fun c _ => e21 c⟩
      · rintro f' c υ hc ⟨u1, u2, u3⟩ IH2
        have pu : rP (-(D 7 2)) υ 5 E wt (qrun E (i + 1) D) := q1.mvF (fun k hk => (u1 k _ (by omega)).1) (fun k hk => (u1 k _ (by omega)).1)
        rw [k_X2_findFair_59, if_pos (nI_lt hc (by omega)), ix_nI (by omega) (by omega), x8_asleep pu.1 pu.2.1 hc]
        simp only [Option.bind_some]
        have hgo : ∀ z, z = qrun E (i + 1) D 0 c → zwp (j_X2_findFair_90 (k_X2_findFair_59 (j_X2_findFair_98 (k_X2_findFair_41 j_X2_findFair_104 f)) f') υ r (nI n) (nI (qeN E)) (nI i) (nI c) (nI c) (υ.1 21 0 c) z) (fun σ' => zsm Gc σc σ' ∧ ∀ k, k < 3 → σ'.1 22 0 k = qfair E D n k) := fun z hz => by
          unfold j_X2_findFair_90
          rw [ix_nI (by omega) (by omega), nI_1]
          refine zwp_let.mpr (IH2 _ ⟨u1.uI (k := 21) (i := 0) rfl c _, fun c' hc' => ?_, fun c' hc' => ?_⟩)
          · rw [uI_1]
            by_cases e : c' = c
            · rw [if_pos ⟨rfl, rfl, e⟩, u3 c (Nat.le_refl _), j3 c hc, e]
              unfold qslp
              rw [qsum, hz]
            · rw [if_neg (by omega)]; exact u2 c' (by omega)
          · rw [uI_1, if_neg (by omega)]; exact u3 c' (by omega)
        rcases (pu.2.2.1.1 c hc).1 with e | e
        · rw [show qdown (qrun E (i + 1) D) c = false by unfold qdown; rw [e]; rfl, if_pos (show b2i false = 0 from rfl)]
          exact hgo _ e.symm
        · rw [show qdown (qrun E (i + 1) D) c = true by unfold qdown; rw [e]; rfl, if_neg (show ¬ b2i true = 0 by decide)]
          exact hgo _ e.symm
      · rintro f' υ ⟨u1, u2, u3⟩
        rw [k_X2_findFair_59, if_neg (nI_nlt (Nat.le_refl _) (by omega))]
        unfold j_X2_findFair_98
        rw [nI_1]
        refine IH υ ⟨(j1.tr (w1.mono (fun kk ii q => by unfold Gc; unfold F8 at q; omega))).tr (u1.mono (fun k i q => by unfold Gc; omega)), q1.mvF (fun k hk => (u1 k _ (by omega)).1) (fun k hk => (u1 k _ (by omega)).1), fun c hc => u2 c hc⟩
    · rintro f τ ⟨j1, j2, j3⟩
      rw [k_X2_findFair_41, if_neg (nI_nlt (Nat.le_refl _) (by omega))]
      unfold j_X2_findFair_104
      generalize hg : (fun c => qslp E D c n) = g
      have hgc : ∀ c, qslp E D c n = g c := fun c => by rw [← hg]
      rw [show k_X2_findFair_113 j_X2_findFair_177 zN τ (nI (qeN E)) (0 : Int32) (0 : Int32) (1 : Int32) = k_X2_findFair_113 j_X2_findFair_177 zN τ (nI (qeN E)) (nI (qmost g 1)) (nI (qleast g 1)) (nI 1) by rw [qmost_1, qleast_1, nI_0, nI_one]]
      refine zwp_for (fun f c (_ : Unit) => k_X2_findFair_113 j_X2_findFair_177 f τ (nI (qeN E)) (nI (qmost g c)) (nI (qleast g c)) (nI c)) (fun c _ => 0 < c) _ 1 (qeN E) (by omega) (by omega) ?_ ?_ () (by omega)
      · intro f c _ hc h0 IH
        have m1 := qmost_lt g c h0
        have m2 := qleast_lt g c h0
        rw [k_X2_findFair_113, if_pos (nI_lt hc (by omega))]
        have hix : ∀ k, k < 12 → ∀ F : Nat → Option zH, ix (nI k) 12 F = F k := fun k hk F => ix_nI hk (by omega)
        rw [hix c (by omega), hix _ (by omega), j3 c hc, j3 _ (by omega), hgc, hgc]
        have hgo : ∀ x, x = nI (qmost g (c + 1)) → zwp (j_X2_findFair_143 (k_X2_findFair_113 j_X2_findFair_177 f) τ (nI (qeN E)) (nI (qleast g c)) (nI c) x) (fun σ' => zsm Gc σc σ' ∧ ∀ k, k < 3 → σ'.1 22 0 k = qfair E D n k) := fun x hx => by
          unfold j_X2_findFair_143 j_X2_findFair_169
          rw [hix c (by omega), hix _ (by omega), j3 c hc, j3 _ (by omega), hgc, hgc, hx, nI_1]
          refine zwp_if (fun e => ?_) (fun e => ?_)
          · have := IH () (by omega)
            rw [show qleast g (c + 1) = c by rw [qleast, if_pos e]] at this
            exact this
          · have := IH () (by omega)
            rw [show qleast g (c + 1) = qleast g c by rw [qleast, if_neg e]] at this
            exact this
        refine zwp_if (fun e => hgo _ ?_) (fun e => hgo _ ?_)
        · rw [qmost, if_pos e]
        · rw [qmost, if_neg e]
      · intro f _ h0
        have m1 := qmost_lt g (qeN E) hN
        have m2 := qleast_lt g (qeN E) hN
        rw [k_X2_findFair_113, if_neg (nI_nlt (Nat.le_refl _) (by omega))]
        unfold j_X2_findFair_177
        have hix : ∀ k, k < 12 → ∀ F : Nat → Option zH, ix (nI k) 12 F = F k := fun k hk F => ix_nI hk (by omega)
        rw [hix _ (by omega), hix _ (by omega), j3 _ m1, j3 _ m2]
        obtain ⟨τ3, e3, z3, k3, k4, k5⟩ := x2_keep τ (nI (qmost g (qeN E))) (nI (qleast g (qeN E))) (qslp E D (qmost g (qeN E)) n - qslp E D (qleast g (qeN E)) n)
        rw [e3]
        simp only [Option.bind_some]
        refine zwp_some.mpr ⟨j1.tr (z22 z3), fun k hk => ?_⟩
        have : k = 0 ∨ k = 1 ∨ k = 2 := by omega
        rcases this with rfl | rfl | rfl
        · rw [k3, ← hg]; rfl
        · rw [k4, ← hg]; rfl
        · rw [k5, ← hg]; rfl
