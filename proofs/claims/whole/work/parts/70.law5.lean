/-! CALLS: law, a VALUE on both sides -/
def mw (w : Nat) : Nat := match w with
  | 0 => 26
  | 1 => 27
  | 2 => 28
  | 3 => 29
  | 4 => 19
  | 5 => 30
  | 6 => 31
  | 7 => 32
  | 8 => 20
  | _ => 33
theorem mw_lt (w : Nat) : mw w < 36 := by
  unfold mw
  split <;> omega
theorem mw_eq : ∀ w, w < 10 → zg zsB (mw w) [] = zg zsB (7 + w) [] := by decide +kernel
theorem x11_wordOf (σ : zH) {w : Nat} (hw : w < 10) : d_X11_wordOf σ (nI w) = some (σ, mw w) := by
  unfold d_X11_wordOf
  have : w = 0 ∨ w = 1 ∨ w = 2 ∨ w = 3 ∨ w = 4 ∨ w = 5 ∨ w = 6 ∨ w = 7 ∨ w = 8 ∨ w = 9 := by omega
  rcases this with rfl | rfl | rfl | rfl | rfl | rfl | rfl | rfl | rfl | rfl <;> rfl
section
variable {b : Nat → Int32} {t : Nat} {σ1 : zH} {L B : Nat} {σ : zH} {pm q m : Nat} {cnt : Nat} {g : List Nat} {cm : List qop} {f : Int32}
/-- which word stands: the reference's search -/
theorem x11_find (h : txm b t σ) (h39 : σ.1 11 0 39 = 10) (hq : σ.1 11 0 31 = nI q) (hqt : q ≤ t) (x1 : Int32) : ∀ d w f, w + d = 10 → d < f → k_X11_value_37 j_X11_value_62 f σ x1 (nI w) = j_X11_value_62 σ x1 (nI (vwf b t q d w))
  | 0, w, f, hw, hf => by
    obtain ⟨f, rfl⟩ : ∃ g, f = g + 1 := ⟨f - 1, by omega⟩
    rw [k_X11_value_37, h39, vwf, if_neg (show ¬ nI w < (10 : Int32) from nI_nlt (b := 10) (by omega) (by omega))]
  | d + 1, w, f, hw, hf => by
    obtain ⟨f, rfl⟩ : ∃ g, f = g + 1 := ⟨f - 1, by omega⟩
    rw [k_X11_value_37, h39, if_pos (show nI w < (10 : Int32) from nI_lt (b := 10) (by omega) (by omega)), x11_wordOf σ (by omega)]
    simp only [Option.bind_some]
    rw [x11_stood h hq hqt _ (mw_lt w), wrd_cg (mw_eq w (by omega)) q, vwf]
    simp only [Option.bind_some]
    rw [nI_1, b2i_if]
    split
    · rfl
    · exact x11_find h h39 hq hqt x1 d (w + 1) f (by omega) (by omega)
theorem vw_tkA (hw : vw b t q < 10) : tkA b t q = q + zsN (mw (vw b t q)) := by
  have h1 := (vwf_spec b t q 10 0).2.2 (by unfold vw at hw; omega)
  have h2 : wrd b t q (7 + vw b t q) = true := h1
  rw [(wrd_end (by omega) h2).2]
  unfold zsN
  rw [mw_eq _ hw]
theorem num_tkA (hD : isD (pk b t q) = true) : tkA b t q = en isD b t q := by
  unfold tkA
  rw [if_neg (fun e => by rw [e, isD_m1] at hD; cases hD), if_pos hD]
theorem MM.value (H : MM b t σ1 L B σ pm cnt g cm) (hq : en isB b t pm = q) (hb : B + cm.length < 300) (hc : cnt ≤ 60) (htm : t ≤ m) :
    (∀ v, vnm b t q = some v → cnt < 60 → ∃ σ', d_X11_value σ = some σ' ∧ MM b t σ1 L B σ' (tkA b t q) (cnt + 1) g (cm ++ [v])) ∧
    (vnm b t q = none → ∃ σ', d_X11_value σ = some σ' ∧ MF b t σ1 L B m σ' (flt 0 (vfc b t q) q)) ∧
    (vnm b t q ≠ none → cnt = 60 → ∃ σ', d_X11_value σ = some σ' ∧ MF b t σ1 L B m σ' (flt 0 3 q)) := by
  obtain ⟨σ2, e2, H2⟩ := H.blanks
  rw [hq] at H2
  have hqt := H2.2.1.2.2
  have t400 := H2.1.1.1
  have hd := en_spec isD_m1 b t q
  have hd2 := hd.2.1 hqt
  unfold d_X11_value
  rw [e2]
  simp only [Option.bind_some]
  rw [x11_isDigit H2.1.1 H2.2.1.2.1 (by omega), H2.2.1.2.1]
  simp only [Option.bind_some]
  rw [b2i_if]
  unfold vnm vfc
  by_cases hD : isD (pk b t q) = true
  · rw [if_pos hD, if_pos hD, if_pos hD]
    obtain ⟨hlt, hen⟩ := en_step isD_m1 hD
    have hne : ¬ en isD b t q = q := fun e => by
      have := (en_spec isD_m1 b t (q + 1)).1
      omega
    obtain ⟨⟨σ3, x3⟩, e3, z3, p3, v3, f3⟩ := x11_digits H2.1.1 H2.2.1.2.1 hqt
    dsimp only at z3 p3 v3 f3
    rw [e3]
    simp only [Option.bind_some]
    rw [if_neg hne, H2.2.1.1] at f3
    have B3 : MB b t σ1 L B σ3 := H2.1.m11 (fun k j q1 q2 => z3.2 k 0 j (by omega))
    by_cases h5 : en isD b t q - q ≤ 5
    · rw [if_neg (show ¬ 5 < en isD b t q - q by omega)] at f3
      rw [if_pos h5]
      have H3 : MM b t σ1 L B σ3 (tkA b t q) cnt g cm := by
        have H2' := H2
        obtain ⟨-, -, ⟨c1, c2, c3, c4, c5⟩, -⟩ := H2
        refine H2'.m11 (fun k j q1 q2 => z3.2 k 0 j (by omega)) (by rw [num_tkA hD]; exact p3) (by rw [num_tkA hD]; exact hd2) f3 (z3.2 _ _ _ (by omega)) (by rw [z3.2 _ _ _ (by omega)]; exact c2) (by rw [z3.2 _ _ _ (by omega)]; exact c3) (by rw [z3.2 _ _ _ (by omega)]; exact c4) (hAt_cg c5 (fun j _ => z3.2 _ _ _ (by omega)))
      obtain ⟨k1, k2⟩ := H3.counted (m := m) (q := q) (by have := H3.2.1.2.2; omega) hc (by omega)
      refine ⟨fun v hv h60 => ?_, fun e => by (cases e), fun _ h60 => ?_⟩
      · obtain ⟨σ4, e4, H4⟩ := k1 h60
        rw [e4]
        simp only [Option.bind_some]
        cases hv
        obtain ⟨σ5, e5, H5⟩ := H4.entry hb (x := 0) (a := x3) 0 (vl b q (en isD b t q - q)) nI_0.symm (fun _ => by rw [v3, show min (en isD b t q - q) 5 = en isD b t q - q by omega])
        rw [e5]
        exact ⟨σ5, rfl, H5⟩
      · obtain ⟨σ4, e4, H4, -⟩ := k2 h60
        rw [e4]
        simp only [Option.bind_some]
        rw [H4.entry]
        exact ⟨σ4, rfl, H4⟩
    · rw [if_pos (show 5 < en isD b t q - q by omega)] at f3
      rw [if_neg h5]
      have F3 : MF b t σ1 L B m σ3 (flt 0 1 q) := ⟨B3, f3, flt_n0 (by omega) (by decide) (by decide), _, by omega, p3⟩
      obtain ⟨σ4, e4, F4, -⟩ := F3.counted (nI q)
      refine ⟨fun v hv => by (cases hv), fun _ => ?_, fun e => absurd rfl e⟩
      rw [e4]
      simp only [Option.bind_some]
      rw [F4.entry]
      exact ⟨σ4, rfl, F4⟩
  · rw [if_neg hD, if_neg hD, if_neg hD, nI_c0, x11_find H2.1.1 H2.1.2.2.2.2 H2.2.1.2.1 hqt (nI q) 10 0 zN (by omega) (by rw [zN_eq]; omega)]
    show (_ ∧ _ ∧ _)
    unfold j_X11_value_62
    rw [H2.1.2.2.2.2, show vwf b t q 10 0 = vw b t q from rfl]
    have hv10 := (vwf_spec b t q 10 0).2.1
    by_cases h10 : vw b t q < 10
    · rw [if_pos h10, if_neg (show ¬ nI (vw b t q) = (10 : Int32) from fun w => by have := (nI_eq (a := vw b t q) (b := 10) (by omega) (by omega)).mp w; omega)]
      obtain ⟨k1, k2⟩ := H2.counted (m := m) (q := q) (by omega) hc (by omega)
      have hA := vw_tkA h10
      have hA2 := (tkA_le (b := b) hqt).2.1
      refine ⟨fun v hv h60 => ?_, fun e => by (cases e), fun _ h60 => ?_⟩
      · obtain ⟨σ4, e4, H4⟩ := k1 h60
        rw [e4]
        simp only [Option.bind_some]
        rw [x11_wordOf σ4 h10, H4.2.1.2.1]
        simp only [Option.bind_some, zlet]
        rw [show nI q + Int32.ofNat (zsN (mw (vw b t q))) = nI (tkA b t q) by rw [hA]; exact nI_add q _]
        cases hv
        obtain ⟨σ5, e5, H5⟩ := (H4.u31 hA2).entry hb (x := 1) (a := nI (vw b t q)) 1 (nI (vw b t q)) nI_one.symm (fun _ => rfl)
        rw [e5]
        exact ⟨σ5, rfl, H5⟩
      · obtain ⟨σ4, e4, F4, e5⟩ := k2 h60
        rw [e4]
        simp only [Option.bind_some]
        rw [x11_wordOf σ4 h10, e5]
        simp only [Option.bind_some, zlet]
        rw [show nI q + Int32.ofNat (zsN (mw (vw b t q))) = nI (tkA b t q) by rw [hA]; exact nI_add q _]
        have F5 := F4.up (p := tkA b t q) (by omega)
        rw [F5.entry]
        exact ⟨_, rfl, F5⟩
    · rw [if_neg h10, if_pos (show nI (vw b t q) = (10 : Int32) by rw [show vw b t q = 10 by unfold vw at h10 ⊢; omega]; rfl)]
      obtain ⟨σ4, e4, F4, -⟩ := H2.fails (m := m) (by omega) 0 (by decide) (by decide) (q := q) (by omega)
      refine ⟨fun v hv => by (cases hv), fun _ => ?_, fun e => absurd rfl e⟩
      rw [e4]
      exact ⟨σ4, rfl, F4⟩
/-- a VALUE read where a fault was met -/
theorem MF.value (H : MF b t σ1 L B t σ f) : ∃ σ', d_X11_value σ = some σ' ∧ MF b t σ1 L B t σ' f := by
  have t400 := H.1.1.1
  obtain ⟨σ2, e2, H2⟩ := H.blanks (by omega) (Nat.le_refl _)
  obtain ⟨a, b1, b2, q, b3, b4⟩ := H2
  have H2 : MF b t σ1 L B t σ2 f := ⟨a, b1, b2, q, b3, b4⟩
  have hd := en_spec isD_m1 b t q
  have hd2 := hd.2.1 b3
  unfold d_X11_value
  rw [e2]
  simp only [Option.bind_some]
  rw [x11_isDigit a.1 b4 (by omega), b4]
  simp only [Option.bind_some]
  rw [b2i_if]
  by_cases hD : isD (pk b t q) = true
  · rw [if_pos hD]
    obtain ⟨⟨σ3, x3⟩, e3, z3, p3, v3, f3⟩ := x11_digits a.1 b4 b3
    dsimp only at z3 p3 v3 f3
    rw [e3]
    simp only [Option.bind_some]
    have F3 : MF b t σ1 L B t σ3 f := by
      refine ⟨a.m11 (fun k j q1 q2 => z3.2 k 0 j (by omega)), ?_, b2, _, hd2, p3⟩
      rw [f3, b1]
      unfold flt
      rw [if_neg b2, if_neg b2]
      split
      · rfl
      · split <;> rfl
    obtain ⟨σ4, e4, F4, -⟩ := F3.counted (nI q)
    rw [e4]
    simp only [Option.bind_some]
    rw [F4.entry]
    exact ⟨σ4, rfl, F4⟩
  · rw [if_neg hD, nI_c0, x11_find a.1 a.2.2.2.2 b4 b3 (nI q) 10 0 zN (by omega) (by rw [zN_eq]; omega)]
    show ∃ σ', _
    unfold j_X11_value_62
    rw [a.2.2.2.2, show vwf b t q 10 0 = vw b t q from rfl]
    have hv10 := (vwf_spec b t q 10 0).2.1
    by_cases h10 : vw b t q < 10
    · rw [if_neg (show ¬ nI (vw b t q) = (10 : Int32) from fun w => by have := (nI_eq (a := vw b t q) (b := 10) (by omega) (by omega)).mp w; omega)]
      have hA := vw_tkA h10
      have hA2 := (tkA_le (b := b) b3).2.1
      obtain ⟨σ4, e4, F4, e5⟩ := H2.counted (nI q)
      rw [e4]
      simp only [Option.bind_some]
      rw [x11_wordOf σ4 h10, e5, b4]
      simp only [Option.bind_some, zlet]
      rw [show nI q + Int32.ofNat (zsN (mw (vw b t q))) = nI (tkA b t q) by rw [hA]; exact nI_add q _]
      have F5 := F4.up (p := tkA b t q) (by omega)
      rw [F5.entry]
      exact ⟨_, rfl, F5⟩
    · rw [if_pos (show nI (vw b t q) = (10 : Int32) by rw [show vw b t q = 10 by unfold vw at h10 ⊢; omega]; rfl)]
      obtain ⟨σ4, e4, F4, -⟩ := H2.fails 0 (nI q)
      rw [e4]
      exact ⟨σ4, rfl, F4⟩
theorem MF.term (H : MF b t σ1 L B t σ f) : ∃ σ', d_X11_term σ = some σ' ∧ MF b t σ1 L B t σ' f := by
  have t400 := H.1.1.1
  obtain ⟨σ2, e2, H2⟩ := H.value
  obtain ⟨σ3, e3, H3⟩ := H2.blanks (by omega) (Nat.le_refl _)
  unfold d_X11_term
  rw [e2]
  simp only [Option.bind_some]
  rw [e3]
  simp only [Option.bind_some]
  rw [show zN = 4095 + 1 from zN_eq, k_X11_term_8, H3.2.1, if_neg H3.2.2.1]
  exact ⟨σ3, rfl, H3⟩
theorem MF.sum (H : MF b t σ1 L B t σ f) : ∃ σ', d_X11_sum σ = some σ' ∧ MF b t σ1 L B t σ' f := by
  obtain ⟨σ2, e2, H2⟩ := H.term
  unfold d_X11_sum
  rw [e2]
  simp only [Option.bind_some]
  rw [show zN = 4095 + 1 from zN_eq, k_X11_sum_4, H2.2.1, if_neg H2.2.2.1]
  exact ⟨σ2, rfl, H2⟩
end
