/-! CALLS: ahead, struck, strike, bestLaw -/
theorem qR.law {σc σm : zH} (h : qR σc σm) {L r : Nat} (hL : σc.1 10 0 5 = nI L) (h6 : L ≤ 6) (hr : r < L) : ∃ E wt D cl, qeL E = qlaw cl ∧ rL σc r cl ∧ rML σm r cl ∧ rLive σc 0 σm E wt D := by
  obtain ⟨E, wt, D, v⟩ := h.2.2.1
  obtain ⟨L', l1, l2, l3, l4⟩ := h.2.1
  have eL : L' = L := by
    rw [l2] at hL
    exact (nI_eq (by omega) (by omega)).mp hL
  subst eL
  obtain ⟨cl, c1, c2⟩ := l4 r hr
  exact ⟨qwl E (qlaw cl), wt, D, cl, rfl, c1, c2, v.wl _⟩
theorem Fs5_Gc {k i : Nat} (h : Fs 5 k i) : Gc k i := by
  unfold Fs F8 at h
  unfold Gc
  omega
theorem rP.gc {W w : Int32} {σ σ' : zH} {E : qE} {D : qD} (h : rP W σ 0 E w D) (z : zsm Gc σ σ') : rP W σ' 0 E w D := h.mvF (fun k hk => (z k 1 (by unfold Gc; omega)).1) (fun k hk => (z k 0 (by unfold Gc; omega)).1)
theorem rL.gc {σ σ' : zH} {l : Nat} {cl : List (Bool × List qop)} (h : rL σ l cl) (z : zsm Gc σ σ') : rL σ' l cl := h.mv (fun k hk => (z k l (by unfold Gc; omega)).1)
theorem hat_none (n : Nat) (hn : n < 4000) : ∀ k, k < n → (nI k = (-1 : Int32) ↔ k = n) := fun k hk => ⟨fun e => absurd e (ne_m1 (by omega)), fun e => by omega⟩
theorem hat_at {n a : Nat} (hn : n < 4000) (ha : a < n) : ∀ k, k < n → (nI k = nI a ↔ k = a) := fun k hk => nI_eq (by omega) (by omega)
/-- play and outcome, as numbers -/
theorem c_ahead {σc σ' : zH} {r : Nat} {E : qE} {wt : Int32} {D : qD} {cl : List (Bool × List qop)} (hE : qeL E = qlaw cl) (hL : rL σc r cl) (h : rP 0 σc 0 E wt D) (hd : (D 7 0).toInt ≤ 9999) (z : zsm Gc σc σ') (n : Nat) (hn : n ≤ 192) :
    ∃ σ2, d_X2_play σ' r (nI n) = some σ2 ∧ zsm Gc σc σ2 ∧ ∀ what, what ≤ 4 → d_X2_outcome σ2 (nI what) = some (σ2, qout E wt n n D what) := by
  obtain ⟨σ2, e, z2, p, c⟩ := x2_playAt hE (hL.gc z) (h.gc z) n hn (by omega)
  exact ⟨σ2, e, z.tr (z2.mono (fun _ _ q => Fs5_Gc q)), fun what hw => x2_outcome (h.gc z) z2 p c what hw⟩
theorem c_struck {σc σ' : zH} {r : Nat} {E : qE} {wt : Int32} {D : qD} {cl : List (Bool × List qop)} (hE : qeL E = qlaw cl) (hL : rL σc r cl) (h : rP 0 σc 0 E wt D) (hd : (D 7 0).toInt ≤ 9999) (z : zsm Gc σc σ') (n a : Nat) (hn : n ≤ 192) (ha : a < n) :
    ∃ σ2, d_X2_playStruck σ' r (nI a) (nI n) = some σ2 ∧ zsm Gc σc σ2 ∧ ∀ what, what ≤ 4 → d_X2_outcome σ2 (nI what) = some (σ2, qout E wt a n D what) := by
  obtain ⟨σ2, e, z2, p, c⟩ := x2_struck hE (hL.gc z) (h.gc z) n a hn ha (by omega)
  exact ⟨σ2, e, z.tr (z2.mono (fun _ _ q => Fs5_Gc q)), fun what hw => x2_outcome (h.gc z) z2 p c what hw⟩
theorem m_tries {σm σ' : zH} {r : Nat} {E : qE} {wt w : Int32} {D : qD} {cl : List (Bool × List qop)} (hE : qeL E = qlaw cl) (hL : rML σm r cl) (h : rMP 0 σm w E wt D) (hd : (D 7 0).toInt ≤ 9999) (hF : 0 ≤ (σm.1 42 0 5).toInt ∧ (σm.1 42 0 5).toInt ≤ (D 7 0).toInt) (z : msame σm σ') (n : Nat) (hn : n ≤ 192) (at32 : Int32) (at_ : Nat) (hat : ∀ k, k < n → (nI k = at32 ↔ k = at_)) (what : Nat) (hw : what ≤ 4) :
    ∃ σ2, d_X11_tries σ' (nI r) at32 (nI n) (nI what) = some (σ2, qout E wt at_ n D what) ∧ msame σm σ2 := by
  obtain ⟨⟨σ2, v⟩, e, s, rfl⟩ := x11_tries hE (hL.same z) (h.same z) (by omega) (by rw [z.2.1 5 (by omega)]; omega) n hn at32 at_ hat what hw
  exact ⟨σ2, e, z.tr s⟩
theorem qR.cm {σc σm σc' σm' : zH} (h : qR σc σm) (z : zsm Gc σc σc') (s : msame σm σm') : qR σc' σm' := (h.c z).m s.s2
theorem r_ahead {σc σm : zH} (h : qR σc σm) (x y w : Int32) : zrel (d_X10_ahead σc x y w) (d_X11_ahead σm x y w) qR := by
  obtain ⟨L, l1, l2, l3, -⟩ := h.2.1
  unfold d_X10_ahead d_X11_ahead
  rcases num_case x L (by omega) with hx | ⟨r, hr, rfl⟩
  · rw [x10_noLaw l2 hx, x11_noLaw l3 l1 hx]
    exact zrel_same h
  rw [x10_isLaw l2 l1 hr, x11_isLaw l3 l1 hr]
  simp only [Option.bind_some]
  rw [if_neg i10, if_neg i10]
  by_cases h1 : y < 0
  · rw [if_pos h1, in_0 (A := 0) (B := 192) 0 192 rfl rfl (Or.inl h1)]
    exact zrel_same h
  rw [if_neg h1]
  by_cases h2 : (192 : Int32) < y
  · rw [if_pos h2, in_0 (A := 0) (B := 192) 0 192 rfl rfl (Or.inr h2)]
    exact zrel_same h
  rw [if_neg h2, in_1 (A := 0) (B := 192) 0 192 rfl rfl h1 h2]
  simp only [Option.bind_some]
  rw [if_neg i10]
  by_cases h3 : w < 0
  · rw [if_pos h3, in_0 (A := 0) (B := 4) 0 4 rfl rfl (Or.inl h3)]
    exact zrel_same h
  rw [if_neg h3]
  by_cases h4 : (4 : Int32) < w
  · rw [if_pos h4, in_0 (A := 0) (B := 4) 0 4 rfl rfl (Or.inr h4)]
    exact zrel_same h
  rw [if_neg h4, in_1 (A := 0) (B := 4) 0 4 rfl rfl h3 h4]
  simp only [Option.bind_some]
  rw [if_neg i10]
  obtain ⟨n, hn, rfl⟩ := nI_of h1
  obtain ⟨k, hk, rfl⟩ := nI_of h3
  rw [show (192 : Int32) = nI 192 from rfl, nI_ltI (by omega) hn] at h2
  rw [show (4 : Int32) = nI 4 from rfl, nI_ltI (by omega) hk] at h4
  obtain ⟨E, wt, D, cl, hE, c1, c2, v⟩ := h.law l2 l1 hr
  obtain ⟨σ2, e2, z2, o2⟩ := c_ahead hE c1 v.1 v.2.2.2.2.2.1 zsm.rf n (by omega)
  obtain ⟨σ3, e3, s3⟩ := m_tries hE c2 v.2.1 v.2.2.2.2.2.1 v.2.2.2.1 (msame.rf σm) n (by omega) (-1) n (hat_none n (by omega)) k (by omega)
  rw [ix_nI (by omega) (by omega), Nat.zero_add, e2, e3]
  simp only [Option.bind_some]
  rw [o2 k (by omega)]
  exact zrel_same (h.cm z2 s3)
theorem r_struck {σc σm : zH} (h : qR σc σm) (x a y w : Int32) : zrel (d_X10_struck σc x a y w) (d_X11_struck σm x a y w) qR := by
  obtain ⟨L, l1, l2, l3, -⟩ := h.2.1
  unfold d_X10_struck d_X11_struck
  rcases num_case x L (by omega) with hx | ⟨r, hr, rfl⟩
  · rw [x10_noLaw l2 hx, x11_noLaw l3 l1 hx]
    exact zrel_same h
  rw [x10_isLaw l2 l1 hr, x11_isLaw l3 l1 hr]
  simp only [Option.bind_some]
  rw [if_neg i10, if_neg i10]
  by_cases h1 : y < 0
  · rw [if_pos h1, in_0 (A := 0) (B := 192) 0 192 rfl rfl (Or.inl h1)]
    exact zrel_same h
  rw [if_neg h1]
  by_cases h2 : (192 : Int32) < y
  · rw [if_pos h2, in_0 (A := 0) (B := 192) 0 192 rfl rfl (Or.inr h2)]
    exact zrel_same h
  rw [if_neg h2, in_1 (A := 0) (B := 192) 0 192 rfl rfl h1 h2]
  simp only [Option.bind_some]
  rw [if_neg i10]
  obtain ⟨n, hn, rfl⟩ := nI_of h1
  rw [show (192 : Int32) = nI 192 from rfl, nI_ltI (by omega) hn] at h2
  rcases num_case a n hn with ha | ⟨at_, ha, rfl⟩
  · rw [in_0 (A := 0) 0 (nI n - 1) rfl rfl (ha.imp id (fun q => le_pred hn q))]
    by_cases h5 : a < 0
    · rw [if_pos h5]; exact zrel_same h
    · rw [if_neg h5, if_neg (le_not_lt (ha.resolve_left h5))]; exact zrel_same h
  rw [if_neg (nI_nneg (by omega)), if_pos (nI_lt ha hn), in_1 (A := 0) 0 (nI n - 1) rfl rfl (nI_nneg (by omega)) (lt_pred hn ha)]
  simp only [Option.bind_some]
  rw [if_neg i10]
  by_cases h3 : w < 0
  · rw [if_pos h3, in_0 (A := 0) (B := 4) 0 4 rfl rfl (Or.inl h3)]
    exact zrel_same h
  rw [if_neg h3]
  by_cases h4 : (4 : Int32) < w
  · rw [if_pos h4, in_0 (A := 0) (B := 4) 0 4 rfl rfl (Or.inr h4)]
    exact zrel_same h
  rw [if_neg h4, in_1 (A := 0) (B := 4) 0 4 rfl rfl h3 h4]
  simp only [Option.bind_some]
  rw [if_neg i10]
  obtain ⟨k, hk, rfl⟩ := nI_of h3
  rw [show (4 : Int32) = nI 4 from rfl, nI_ltI (by omega) hk] at h4
  obtain ⟨E, wt, D, cl, hE, c1, c2, v⟩ := h.law l2 l1 hr
  obtain ⟨σ2, e2, z2, o2⟩ := c_struck hE c1 v.1 v.2.2.2.2.2.1 zsm.rf n at_ (by omega) ha
  obtain ⟨σ3, e3, s3⟩ := m_tries hE c2 v.2.1 v.2.2.2.2.2.1 v.2.2.2.1 (msame.rf σm) n (by omega) (nI at_) at_ (hat_at (by omega) ha) k (by omega)
  rw [ix_nI (by omega) (by omega), Nat.zero_add, e2, e3]
  simp only [Option.bind_some]
  rw [o2 k (by omega)]
  exact zrel_same (h.cm z2 s3)
/-- a search for the least: val by number, what is kept of it -/
def qbst (val code : Nat → Int32) (start : Int32) : Nat → Int32 × Int32
  | 0 => (start, -2)
  | k + 1 => if val k < (qbst val code start k).1 then (val k, code k) else qbst val code start k
/-- what the class keeps of a search -/
def fnd (σ : zH) (b : Int32 × Int32) : Prop := σ.1 22 0 0 = b.2 ∧ σ.1 22 0 1 = (if b.2 = -2 then -2 else b.1)
theorem x2_keep (σ : zH) (a b c : Int32) : ∃ σ', d_X2_keep σ a b c = some σ' ∧ zsm (fun k _ => k = 22) σ σ' ∧ σ'.1 22 0 0 = a ∧ σ'.1 22 0 1 = b ∧ σ'.1 22 0 2 = c := by
  unfold d_X2_keep
  refine ⟨_, rfl, (((zsm.rf (F := fun k _ => k = 22)).uI (k := 22) (i := 0) rfl 0 a).uI (k := 22) (i := 0) rfl 1 b).uI (k := 22) (i := 0) rfl 2 c, ?_, ?_, ?_⟩
  · simp [uI_1]
  · simp [uI_1]
  · simp [uI_1]
theorem z22 {σ σ' : zH} (z : zsm (fun k _ => k = 22) σ σ') : zsm Gc σ σ' := z.mono (fun k i q => by unfold Gc; omega)
theorem fnd.mvF {σ σ' : zH} {b : Int32 × Int32} (h : fnd σ b) (z : zsm (Fs 5) σ σ') : fnd σ' b := by
  unfold fnd at h ⊢
  rw [(z 22 0 (by unfold Fs F8; omega)).1]
  exact h
theorem r_strike {σc σm : zH} (h : qR σc σm) (x y w : Int32) : zrel (d_X10_strike σc x y w) (d_X11_strike σm x y w) qR := by
  obtain ⟨L, l1, l2, l3, -⟩ := h.2.1
  unfold d_X10_strike d_X11_strike
  rcases num_case x L (by omega) with hx | ⟨r, hr, rfl⟩
  · rw [x10_noLaw l2 hx, x11_noLaw l3 l1 hx]
    exact zrel_same h
  rw [x10_isLaw l2 l1 hr, x11_isLaw l3 l1 hr]
  simp only [Option.bind_some]
  rw [if_neg i10, if_neg i10]
  by_cases h1 : y < 1
  · rw [if_pos h1, in_0 (A := 1) (B := 96) 1 96 rfl rfl (Or.inl h1)]
    exact zrel_same h
  rw [if_neg h1]
  by_cases h2 : (96 : Int32) < y
  · rw [if_pos h2, in_0 (A := 1) (B := 96) 1 96 rfl rfl (Or.inr h2)]
    exact zrel_same h
  rw [if_neg h2, in_1 (A := 1) (B := 96) 1 96 rfl rfl h1 h2]
  simp only [Option.bind_some]
  rw [if_neg i10]
  by_cases h3 : w < 0
  · rw [if_pos h3, in_0 (A := 0) (B := 1) 0 1 rfl rfl (Or.inl h3)]
    exact zrel_same h
  rw [if_neg h3]
  by_cases h4 : (1 : Int32) < w
  · rw [if_pos h4, in_0 (A := 0) (B := 1) 0 1 rfl rfl (Or.inr h4)]
    exact zrel_same h
  rw [if_neg h4, in_1 (A := 0) (B := 1) 0 1 rfl rfl h3 h4]
  simp only [Option.bind_some]
  rw [if_neg i10]
  obtain ⟨n, hn1, hn, rfl⟩ := i32_lt1 h1
  obtain ⟨k, hk, rfl⟩ := nI_of h3
  rw [show (96 : Int32) = nI 96 from rfl, nI_ltI (by omega) hn] at h2
  rw [show (1 : Int32) = nI 1 from rfl, nI_ltI (by omega) hk] at h4
  obtain ⟨E, wt, D, cl, hE, c1, c2, v⟩ := h.law l2 l1 hr
  have hd := v.2.2.2.2.2.1
  have h00 := v.1.2.2.1.2.2.1
  rw [ix_nI (by omega) (by omega), Nat.zero_add]
  generalize hval : (fun a => qout E wt a n D 1) = val
  have hv : ∀ a, qout E wt a n D 1 = val a := fun a => by rw [← hval]
  -- the class
  have hc : zwp (d_X2_findStrike σc r (nI n)) (fun σ' => zsm Gc σc σ' ∧ fnd σ' (qbst val nI (qout E wt n n D 1) n)) := by
    unfold d_X2_findStrike
    obtain ⟨σ1, e1, z1, k1, k2, -⟩ := x2_keep σc (-2) (-2) (-2)
    rw [e1]
    simp only [Option.bind_some]
    obtain ⟨σ2, e2, z2, p2, q2⟩ := x2_playAt hE (c1.gc (z22 z1)) (v.1.gc (z22 z1)) n (by omega) (by omega)
    unfold d_X2_play at e2
    obtain ⟨σr, er, e2⟩ := Option.bind_eq_some_iff.mp e2
    rw [er]
    simp only [Option.bind_some]
    obtain ⟨σp, ep, e2⟩ := Option.bind_eq_some_iff.mp e2
    cases e2
    rw [ep]
    simp only [Option.bind_some]
    have o2 : σ2.1 8 5 12 = qout E wt n n D 1 := congrArg (fun a => a.1) q2
    rw [o2, nI_c0]
    refine zwp_for (fun f i (s : zH × Int32) => k_X2_findStrike_34 f s.1 r (nI n) s.2 (nI i)) (fun i s => zsm Gc σc s.1 ∧ fnd s.1 (qbst val nI (qout E wt n n D 1) i) ∧ s.2 = (qbst val nI (qout E wt n n D 1) i).1) _ 0 n (by omega) (by omega) ?_ ?_ (σ2, qout E wt n n D 1) ⟨(z22 z1).tr (z2.mono (fun _ _ q => Fs5_Gc q)), fnd.mvF ⟨k1, k2⟩ z2, rfl⟩
    · rintro f i ⟨τ, s⟩ hi ⟨i1, i2, i3⟩ IH
      dsimp only at i1 i2 i3 ⊢
      obtain ⟨τ2, f2, w2, p3, q3⟩ := x2_struck hE (c1.gc i1) (v.1.gc i1) n i (by omega) hi (by omega)
      unfold d_X2_playStruck at f2
      have o3 : τ2.1 8 5 12 = val i := by
        rw [← hv]
        exact congrArg (fun a => a.1) q3
      rw [k_X2_findStrike_34, if_pos (nI_lt hi (by omega))]
      obtain ⟨τr, er2, f2⟩ := Option.bind_eq_some_iff.mp f2
      rw [er2]
      simp only [Option.bind_some]
      obtain ⟨τp, ep2, f2⟩ := Option.bind_eq_some_iff.mp f2
      rw [ep2]
      simp only [Option.bind_some]
      obtain ⟨τw, ew2, f2⟩ := Option.bind_eq_some_iff.mp f2
      rw [ew2]
      simp only [Option.bind_some]
      obtain ⟨τq, eq2, f2⟩ := Option.bind_eq_some_iff.mp f2
      cases f2
      rw [eq2]
      simp only [Option.bind_some]
      rw [o3, nI_1]
      have i1' : zsm Gc σc τ2 := i1.tr (w2.mono (fun _ _ q => Fs5_Gc q))
      refine zwp_if (fun e => ?_) (fun e => ?_)
      · obtain ⟨τ3, e3, z3, k3, k4, -⟩ := x2_keep τ2 (nI i) (val i) (-2)
        rw [e3]
        simp only [Option.bind_some]
        have hq : qbst val nI (qout E wt n n D 1) (i + 1) = (val i, nI i) := by rw [qbst, if_pos (by rw [← i3]; exact e)]
        refine IH (τ3, val i) ⟨i1'.tr (z22 z3), ?_, by rw [hq]⟩
        rw [hq]
        refine ⟨k3, ?_⟩
        rw [if_neg (show ¬ nI i = -2 from fun q => by
          have := congrArg Int32.toInt q
          rw [nI_toInt (by omega), i32_m2] at this
          omega)]
        exact k4
      · have hq : qbst val nI (qout E wt n n D 1) (i + 1) = qbst val nI (qout E wt n n D 1) i := by rw [qbst, if_neg (by rw [← i3]; exact e)]
        refine IH (τ2, s) ⟨i1', ?_, by rw [hq]; exact i3⟩
        rw [hq]
        exact i2.mvF w2
    · rintro f ⟨τ, s⟩ ⟨i1, i2, i3⟩
      dsimp only at i1 i2 i3 ⊢
      rw [k_X2_findStrike_34, if_neg (nI_nlt (Nat.le_refl _) (by omega))]
      exact zwp_some.mpr ⟨i1, i2⟩
  -- the reference
  obtain ⟨σ3, e3, s3⟩ := m_tries hE c2 v.2.1 hd v.2.2.2.1 (msame.rf σm) n (by omega) (-1) n (hat_none n (by omega)) 1 (by omega)
  rw [nI_one] at e3
  have hm : zwp (k_X11_strike_49 j_X11_strike_104 zN σ3 (nI r) (nI n) (nI k) (qout E wt n n D 1) (-2 : Int32) (0 : Int32)) (fun p => msame σm p.1 ∧ p.2 = if k = 0 then (qbst val nI (qout E wt n n D 1) n).2 else if (qbst val nI (qout E wt n n D 1) n).2 = -2 then -2 else (qbst val nI (qout E wt n n D 1) n).1) := by
    rw [show k_X11_strike_49 j_X11_strike_104 zN σ3 (nI r) (nI n) (nI k) (qout E wt n n D 1) (-2 : Int32) (0 : Int32) = k_X11_strike_49 j_X11_strike_104 zN σ3 (nI r) (nI n) (nI k) (qout E wt n n D 1) (-2 : Int32) (nI 0) by rw [nI_0]]
    refine zwp_for (fun f i (s : zH × Int32 × Int32) => k_X11_strike_49 j_X11_strike_104 f s.1 (nI r) (nI n) (nI k) s.2.1 s.2.2 (nI i)) (fun i s => msame σm s.1 ∧ s.2 = qbst val nI (qout E wt n n D 1) i) _ 0 n (by omega) (by omega) ?_ ?_ (σ3, qout E wt n n D 1, -2) ⟨s3, rfl⟩
    · rintro f i ⟨τ, s⟩ hi ⟨i1, i2⟩ IH
      dsimp only at i1 i2 ⊢
      obtain ⟨τ2, f2, t2⟩ := m_tries hE c2 v.2.1 hd v.2.2.2.1 i1 n (by omega) (nI i) i (hat_at (by omega) hi) 1 (by omega)
      rw [nI_one, hv] at f2
      rw [k_X11_strike_49, if_pos (nI_lt hi (by omega)), f2]
      simp only [Option.bind_some]
      unfold j_X11_strike_80 j_X11_strike_96
      rw [nI_1]
      refine zwp_if (fun e => ?_) (fun e => ?_)
      · rw [if_pos e]
        exact IH (τ2, val i, nI i) ⟨t2, by rw [qbst, if_pos (by rw [← i2]; exact e)]⟩
      · rw [if_neg e]
        exact IH (τ2, s) ⟨t2, by rw [qbst, if_neg (by rw [← i2]; exact e)]; exact i2⟩
    · rintro f ⟨τ, s⟩ ⟨i1, i2⟩
      dsimp only at i1 i2 ⊢
      rw [k_X11_strike_49, if_neg (nI_nlt (Nat.le_refl _) (by omega)), i2]
      unfold j_X11_strike_104
      by_cases e : (qbst val nI (qout E wt n n D 1) n).2 = -2
      · rw [if_pos e, if_pos e, e]
        refine zwp_some.mpr ⟨i1, ?_⟩
        split <;> rfl
      · rw [if_neg e, if_neg e]
        by_cases e0 : k = 0
        · rw [if_pos (by rw [e0]; exact nI_0), if_pos e0]
          exact zwp_some.mpr ⟨i1, rfl⟩
        · rw [if_neg (nI_ne0 (by omega) (by omega)), if_neg e0]
          exact zwp_some.mpr ⟨i1, rfl⟩
  rw [e3]
  simp only [Option.bind_some]
  refine zrel_of (P1 := fun σ => zsm Gc σc σ) ?_ hm (fun a b p q => h.cm p q)
  refine zwp_to hc (fun σ' hp => ?_)
  rw [ix_nI (by omega) (by omega)]
  refine zwp_some.mpr ⟨hp.1, ?_⟩
  by_cases e0 : k = 0
  · rw [if_pos e0, e0]; exact hp.2.1
  · rw [if_neg e0, show k = 1 by omega]; exact hp.2.2
