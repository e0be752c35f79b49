/-! CALLS: law, a joint on both sides -/
section
variable {b : Nat → Int32} {t : Nat} {c1 m1 : zH} {L B c0 N0 : Nat} {σ σc σm : zH} {pc pm q m : Nat} {ex sg : Int32} {cnt : Nat} {A h0 h g : List Nat} {cc cm : List qop} {ts : List Bool} {f : Int32}
theorem wrd_2 {e e' : Nat} (h : zsN e ≠ zsN e') (hw : wrd b t q e = true) : wrd b t q e' = false := by
  unfold wrd at hw ⊢
  rw [Bool.and_eq_true] at hw
  have h1 : en isW b t q - q = zsN e := of_decide_eq_true hw.1
  rw [decide_eq_false (by rw [h1]; exact h), Bool.false_and]
theorem ops_0 (c : List qop) : c = c ++ ops [] := by simp [ops]
theorem rep_len (n k : Nat) : (List.replicate n k).length = n := List.length_replicate
theorem W_joint (W : W0 b t c1 m1 L B c0 N0 σc σm pc pm ex sg cnt A g cc cm) : ∃ σm' w x2, (∀ f, k_X11_test_9 (f + 1) σm (0 : Int32) (1 : Int32) = k_X11_test_9 f σm' (b2i w) x2) ∧
    ((x2 = 1 ∧ w = true ∧ ∃ σc' pc' g' cc' cm' sg', pc < pc' ∧ cgo 1 σc σc' ∧ W1 b t c1 m1 L B c0 N0 σc' σm' pc' pc' sg' cnt g' cc' cm') ∨
     (x2 = 1 ∧ w = false ∧ ∃ σc' pc' g' cc' cm' sg', pc < pc' ∧ cgo 1 σc σc' ∧ W0 b t c1 m1 L B c0 N0 σc' σm' pc' pc' 4 sg' cnt [] g' cc' cm') ∨
     (x2 = 0 ∧ TE b t c1 m1 L B c0 N0 pc σc σm') ∨ FT b t c1 m1 L B (t + 1) pc σc σm') := by
  obtain ⟨P, hgw, hd, hAc, hJ⟩ := W
  obtain ⟨H, M, e1, e2, I, hl⟩ := P
  obtain ⟨k9, k10, k11, rest, eg, ho, hrest⟩ := gw_0 hgw
  have t400 := H.1.1.1
  have hpc := H.2.1.2.2
  have hlen := I.len
  have hgl : g.length ≤ 400 := by rw [List.length_append] at hl; omega
  have hglen : g.length = k9 + (k10 + (k11 + rest.length)) := by rw [eg]; simp
  -- the token
  obtain ⟨τ, n1, k, hq, T⟩ := H.next
  have hs := (en_spec isB_m1 b t pc)
  have ebq : en isB b t (en isB b t pc) = en isB b t pc := en_stop hs.2.2.2
  have hs := hs.1
  generalize hqe : en isB b t pc = q at n1 k hq T hJ hs e2 ebq
  have hA := tkA_le (b := b) hq
  have st : ∀ σ', d_X5_take τ = some σ' → cgo 1 σc σ' := fun σ' e => cgo_1 ⟨by rw [H.2.2.1.2.2.1]; exact hJ.1, H.2.1.1, τ, n1, e⟩
  have hT := hJ.2 τ k T
  -- the reference: NOTs, blanks, words, ANDs
  have Il := qty_len I.1
  have hx : ∀ n : Nat, nI n = Int32.ofNat n := fun _ => rfl
  have Mg : MM b t m1 L B σm pm cnt (List.replicate k9 9 ++ (List.replicate k10 10 ++ (List.replicate k11 11 ++ rest))) cm := by rw [← eg]; exact M
  have htl : (false :: (List.replicate (ctn 10 g + ctn 11 g) true)).length = ctn 10 g + ctn 11 g + 1 := by simp
  -- what both have entered
  have eG9 : ∀ x, x ∈ List.replicate k9 9 → jO x := fun x hx => Or.inl (in_rep hx)
  have eG10 : ∀ x, x ∈ List.replicate k10 10 → jO x := fun x hx => Or.inr (Or.inl (in_rep hx))
  have eG11 : ∀ x, x ∈ List.replicate k11 11 → jO x := fun x hx => Or.inr (Or.inr (in_rep hx))
  have I1 : IV B c0 N0 pc cnt (List.replicate k11 11 ++ rest) (cm ++ ops (List.replicate k9 9 ++ List.replicate k10 10)) (true :: tsg (List.replicate k11 11 ++ rest)) := by
    refine IV.pops (G := List.replicate k9 9 ++ List.replicate k10 10) (fun x hx => ?_) ?_
    · rw [List.mem_append] at hx
      rcases hx with hx | hx
      · exact eG9 x hx
      · exact eG10 x hx
    · rw [List.append_assoc, ← eg]; exact I
  have l1 := I1.len
  have l2 : (cm ++ ops (List.replicate k9 9 ++ List.replicate k10 10)).length = cm.length + (k9 + k10) := by simp [ops]
  obtain ⟨s1, a1, M1⟩ := MM.answers (k := 9) (Or.inl rfl) (fun x r e => by rcases hd1 hrest k10 k11 x r e with h | h | h <;> omega) (by simp; omega) k9 σm cm zN Mg (by omega) (by simp; omega) (by rw [zN_eq]; omega)
  obtain ⟨s2, a2, M2⟩ := M1.blanks
  rw [← e2] at M2
  obtain ⟨s3, a3, M3⟩ := MM.answers (k := 10) (Or.inr (Or.inl rfl)) (fun x r e => by rcases hd2 hrest k11 x r e with h | h <;> omega) (by simp; omega) k10 s2 (cm ++ ops (List.replicate k9 9)) zN M2 (by simp [ops]; omega) (by simp; omega) (by rw [zN_eq]; omega)
  have w34 := x11_stood M2.1.1 M2.2.1.2.1 hq 34 (by omega)
  have w35 := x11_stood M2.1.1 M2.2.1.2.1 hq 35 (by omega)
  rw [wrd_cg (e := 34) (e' := 17) (by decide +kernel) q] at w34
  rw [wrd_cg (e := 35) (e' := 18) (by decide +kernel) q] at w35
  have go : ∀ f, k_X11_test_9 (f + 1) σm (0 : Int32) (1 : Int32) = (if b2i (wrd b t q 17) = 0 then if b2i (wrd b t q 18) = 0 then (d_X11_answers s3 (11 : Int32)).bind fun σ6 => (d_X11_top σ6).bind fun p7 => if p7.2 = (12 : Int32) then (d_X11_sign p7.1).bind fun p8 => if p8.2 = (93 : Int32) then (j_X11_test_164 (k_X11_test_9 f)) p8.1 0 1 else (d_X11_fails p8.1 (0 : Int32) (p8.1.1 11 0 31)).bind fun σ9 => (j_X11_test_164 (k_X11_test_9 f)) σ9 0 1 else (k_X11_test_9 f) p7.1 0 (0 : Int32) else (j_X11_test_82 (k_X11_test_9 f)) s3 1 (b2i (wrd b t q 17)) (b2i (wrd b t q 18)) else (j_X11_test_82 (k_X11_test_9 f)) s3 1 (b2i (wrd b t q 17)) (b2i (wrd b t q 18))) := fun f => by
    rw [k_X11_test_9, if_neg i10, if_pos M.2.1.1, if_pos rfl]
    unfold d_X11_answers
    rw [show k_X11_answers_0 zN σm (9 : Int32) = some s1 from a1]
    simp only [Option.bind_some]
    rw [a2]
    simp only [Option.bind_some]
    rw [w34]
    simp only [Option.bind_some]
    rw [w35]
    simp only [Option.bind_some]
    rw [show k_X11_answers_0 zN s2 (10 : Int32) = some s3 from a3]
    rfl
  have eG : A ++ g = (A ++ (List.replicate k9 9 ++ List.replicate k10 10)) ++ (List.replicate k11 11 ++ rest) := by rw [eg]; simp
  have ec : cc ++ ops (A ++ (List.replicate k9 9 ++ List.replicate k10 10)) = cm ++ ops (List.replicate k9 9 ++ List.replicate k10 10) := by rw [ops_app, ← List.append_assoc, ← e1]
  have eM : cm ++ ops (List.replicate k9 9) ++ ops (List.replicate k10 10) = cm ++ ops (List.replicate k9 9 ++ List.replicate k10 10) := by rw [ops_app, List.append_assoc]
  rw [eM] at M3
  have c9g : ctn 9 g = ctn 9 (List.replicate k9 9) + (ctn 9 (List.replicate k10 10) + ctn 9 (List.replicate k11 11 ++ rest)) := by rw [eg, ctn_app, ctn_app]
  have c12g : ctn 12 g = ctn 12 (List.replicate k9 9) + (ctn 12 (List.replicate k10 10) + ctn 12 (List.replicate k11 11 ++ rest)) := by rw [eg, ctn_app, ctn_app]
  have hAG : ∀ rr : Int32, (rr = 1 ∨ rr = 2) → ∀ x, x ∈ A ++ (List.replicate k9 9 ++ List.replicate k10 10) → x ≠ 12 ∧ 1 < x ∧ ¬ qren x / 10 < rr := fun rr hr x hx => by
    rw [List.mem_append, List.mem_append] at hx
    rcases hx with hx | hx | hx
    · obtain ⟨q1, q2, q3, q4⟩ := rk_ac (hAc x hx)
      refine ⟨q1, q2, fun c => q4 ?_⟩
      rw [fa_lt] at c ⊢
      rcases hr with rfl | rfl
      · rw [i32_1] at c; rw [show (4 : Int32).toInt = 4 by decide]; omega
      · rw [show (2 : Int32).toInt = 2 by decide] at c; rw [show (4 : Int32).toInt = 4 by decide]; omega
    · rw [in_rep hx]; rcases hr with rfl | rfl <;> decide
    · rw [in_rep hx]; rcases hr with rfl | rfl <;> decide
  have gw11 : gw 1 (List.replicate k11 11 ++ rest) := by
    have : k11 = 0 ∨ k11 = 1 := by omega
    rcases this with e | e
    · rw [e]; exact rest_gw hrest
    · rw [e]; exact Or.inr (Or.inr (Or.inl ⟨rfl, by omega, rest_gw hrest⟩))
  have hcl : cm.length = cc.length + A.length := by rw [e1, List.length_append]; simp [ops]
  have hlA : (A ++ g).length = A.length + (k9 + (k10 + (k11 + rest.length))) := by rw [List.length_append, hglen]
  have joint : isC (pk b t q) → isW (pk b t q) = false := fun hc => by rcases hc with h | h | h <;> rw [h] <;> decide
  by_cases w17 : wrd b t q 17 = true
  · -- and
    have w18 : wrd b t q 18 = false := wrd_2 (e := 17) (e' := 18) (by decide +kernel) w17
    have hW := wrd_W (by omega) w17
    have htA : tkA b t q = q + 3 := (wrd_end (by omega) w17).2
    have hTT : d_X5_take τ = d_X5_takeJoint τ := by
      rcases hT with h | ⟨h, -⟩
      · exact h
      · rw [joint h] at hW; cases hW
    rw [eG] at T
    obtain ⟨y, y1, y2⟩ := T.joint k hq true w17 (fun e => by cases e) 2 rfl (fun x r e => by rcases hd2 hrest k11 x r e with h | h <;> rw [h] <;> decide) (by simp; omega) (by rw [← eG]; omega) (hAG 2 (Or.inr rfl))
    rw [ec] at y2
    obtain ⟨z, z1, z2⟩ := M3.hold (by simp; omega) (k := 10) (Or.inl rfl)
    refine ⟨uI z 11 0 31 (nI (q + 3)), true, 1, fun f => ?_, Or.inl ⟨rfl, rfl, y, tkA b t q, 10 :: (List.replicate k11 11 ++ rest), _, _, sg, by omega, st y (by rw [hTT, y1]), ⟨y2, ?_, ops_0 _, rfl, ?_, ?_⟩, Or.inr (Or.inl ⟨rfl, rfl, gw11⟩), ?_⟩⟩
    · rw [go f, w17, w18]
      unfold j_X11_test_82 j_X11_test_93 j_X11_test_105 j_X11_test_122
      rw [b2i_t, b2i_f, if_neg i10, if_pos rfl, if_neg i10, show d_X11_opens s3 (10 : Int32) = some z from z1]
      simp only [Option.bind_some, zlet]
      rw [if_neg i10, z2.2.1.2.1, show nI q + (3 : Int32) = nI (q + 3) from nI_add q 3]
    · rw [htA]; exact z2.u31 (by omega)
    · obtain ⟨x1, x2, x3, x4, x5, x6⟩ := I1
      refine ⟨by rw [tsg_10]; exact x1, x2, x3, ?_, by omega, x6⟩
      rw [ctn, if_neg (by decide)]; omega
    · simp; omega
    · rw [ctn, ctn, if_neg (by decide), if_neg (by decide)]; omega
  have w17f : wrd b t q 17 = false := by
    cases hh : wrd b t q 17 with
    | false => rfl
    | true => exact absurd hh w17
  -- ORs
  have I2 : IV B c0 N0 pc cnt rest (cm ++ ops (List.replicate k9 9 ++ List.replicate k10 10) ++ ops (List.replicate k11 11)) (true :: tsg rest) := IV.pops eG11 I1
  have l3 := I2.len
  have l4 : (cm ++ ops (List.replicate k9 9 ++ List.replicate k10 10) ++ ops (List.replicate k11 11)).length = cm.length + (k9 + k10) + k11 := by simp [ops]; omega
  obtain ⟨s4, a4, M4⟩ := MM.answers (k := 11) (Or.inr (Or.inr rfl)) (fun x r e => by rw [hd3 hrest x r e]; omega) (by omega) k11 s3 _ zN M3 (by omega) (by omega) (by rw [zN_eq]; omega)
  have eG2 : A ++ g = (A ++ (List.replicate k9 9 ++ List.replicate k10 10) ++ List.replicate k11 11) ++ rest := by rw [eg]; simp
  have ec2 : cc ++ ops (A ++ (List.replicate k9 9 ++ List.replicate k10 10) ++ List.replicate k11 11) = cm ++ ops (List.replicate k9 9 ++ List.replicate k10 10) ++ ops (List.replicate k11 11) := by rw [ops_app, ← List.append_assoc, ec]
  have hAG2 : ∀ x, x ∈ A ++ (List.replicate k9 9 ++ List.replicate k10 10) ++ List.replicate k11 11 → x ≠ 12 ∧ 1 < x ∧ ¬ qren x / 10 < 1 := fun x hx => by
    rw [List.mem_append] at hx
    rcases hx with hx | hx
    · exact hAG 1 (Or.inl rfl) x hx
    · rw [in_rep hx]; decide
  have c9r : ctn 9 (List.replicate k11 11 ++ rest) = ctn 9 (List.replicate k11 11) + ctn 9 rest := ctn_app _ _ _
  have c12r : ctn 12 (List.replicate k11 11 ++ rest) = ctn 12 (List.replicate k11 11) + ctn 12 rest := ctn_app _ _ _
  by_cases w18 : wrd b t q 18 = true
  · -- or
    have hW := wrd_W (by omega) w18
    have htA : tkA b t q = q + 2 := (wrd_end (by omega) w18).2
    have hTT : d_X5_take τ = d_X5_takeJoint τ := by
      rcases hT with h | ⟨h, -⟩
      · exact h
      · rw [joint h] at hW; cases hW
    rw [eG2] at T
    obtain ⟨y, y1, y2⟩ := T.joint k hq false w17f (fun _ => w18) 1 rfl (fun x r e => by rw [hd3 hrest x r e]; decide) (by simp; omega) (by rw [← eG2]; omega) hAG2
    rw [ec2] at y2
    obtain ⟨z, z1, z2⟩ := M4.hold (by omega) (k := 11) (Or.inr rfl)
    refine ⟨uI z 11 0 31 (nI (q + 2)), true, 1, fun f => ?_, Or.inl ⟨rfl, rfl, y, tkA b t q, 11 :: rest, _, _, sg, by omega, st y (by rw [hTT, y1]), ⟨y2, ?_, ops_0 _, rfl, ?_, ?_⟩, Or.inr (Or.inr (Or.inl ⟨rfl, by omega, rest_gw hrest⟩)), ?_⟩⟩
    · rw [go f, w17f, w18]
      unfold j_X11_test_82 j_X11_test_93 j_X11_test_105 j_X11_test_122
      rw [b2i_t, b2i_f, if_pos rfl, if_neg i10, if_neg i10]
      unfold d_X11_answers
      rw [show k_X11_answers_0 zN s3 (11 : Int32) = some s4 from a4]
      simp only [Option.bind_some]
      rw [if_pos trivial, show d_X11_opens s4 (11 : Int32) = some z from z1]
      simp only [Option.bind_some, zlet]
      rw [if_pos trivial, z2.2.1.2.1, show nI q + (2 : Int32) = nI (q + 2) from nI_add q 2]
    · rw [htA]; exact z2.u31 (by omega)
    · obtain ⟨x1, x2, x3, x4, x5, x6⟩ := I2
      refine ⟨by rw [tsg_11]; exact x1, x2, x3, ?_, by omega, x6⟩
      rw [ctn, if_neg (by decide)]; omega
    · simp; omega
    · rw [ctn, ctn, if_neg (by decide), if_neg (by decide)]; omega
  have w18f : wrd b t q 18 = false := by
    cases hh : wrd b t q 18 with
    | false => rfl
    | true => exact absurd hh w18
  have go2 : ∀ f, k_X11_test_9 (f + 1) σm (0 : Int32) (1 : Int32) = ((d_X11_top s4).bind fun p7 => if p7.2 = (12 : Int32) then (d_X11_sign p7.1).bind fun p8 => if p8.2 = (93 : Int32) then (j_X11_test_164 (k_X11_test_9 f)) p8.1 0 1 else (d_X11_fails p8.1 (0 : Int32) (p8.1.1 11 0 31)).bind fun σ9 => (j_X11_test_164 (k_X11_test_9 f)) σ9 0 1 else (k_X11_test_9 f) p7.1 0 (0 : Int32)) := fun f => by
    rw [go f, w17f, w18f, b2i_f, if_pos rfl, if_pos rfl]
    unfold d_X11_answers
    rw [show k_X11_answers_0 zN s3 (11 : Int32) = some s4 from a4]
    rfl
  obtain ⟨tp1, tp2⟩ := M4.top (by omega)
  rcases hrest with hr | ⟨g', hr, hg'⟩
  · -- the end
    subst hr
    refine ⟨s4, false, 0, fun f => ?_, Or.inr (Or.inr (Or.inl ⟨rfl, Or.inl ⟨0, σc, pc, q, ex, sg, cnt, A ++ g, cc, _, by omega, rfl, H, M4, ?_, hqe, ebq, hl, ?_, ?_, w17f, w18f, hJ⟩⟩))⟩
    · rw [go2 f, tp1 rfl]
      simp only [Option.bind_some]
      rw [if_neg (by decide)]; rfl
    · rw [← ec2, eG2, List.append_nil]
    · exact I2
    · rw [eG2, List.append_nil]; exact hAG2
  · subst hr
    have c0' : ctn 12 (A ++ g) ≠ 0 := by
      rw [eG2, ctn_app]
      show _ + ((if 12 = 12 then 1 else 0) + ctn 12 g') ≠ 0
      rw [if_pos rfl]; omega
    by_cases h93 : pk b t q = 93
    · have hnC : ¬ isC (pk b t q) := fun hc => by rw [h93] at hc; rcases hc with h | h | h <;> exact absurd h (by decide)
      have hTT : d_X5_take τ = d_X5_takeJoint τ := by
        rcases hT with h | ⟨h, -⟩
        · exact h
        · exact absurd h hnC
      have htA : tkA b t q = q + 1 := (tk_sg h93 (by decide) (by decide) (by decide) (by decide) (by decide)).2.2
      rw [eG2] at T
      obtain ⟨y, y1, y2⟩ := T.shut k hq h93 (by simp; omega) (by rw [← eG2]; omega) hAG2
      rw [ec2] at y2
      obtain ⟨d1, d2, d3, d4, d5⟩ := M4.2.2.1
      have e9 : ctn 9 (12 :: g') = ctn 9 g' := by rw [ctn, if_neg (by decide), Nat.zero_add]
      have e12 : ctn 12 (12 :: g') = ctn 12 g' + 1 := by rw [ctn, if_pos rfl, Nat.add_comm]
      refine ⟨uI (uI (uI s4 11 0 31 (nI (q + 1))) 11 0 38 (nI g'.length)) 11 0 36 (nI (ctn 9 g' + ctn 12 g')), false, 1, fun f => ?_, Or.inr (Or.inl ⟨rfl, rfl, y, tkA b t q, g', _, _, sg, by omega, st y (by rw [hTT, y1]), ⟨y2, ?_, ops_0 _, rfl, ?_, ?_⟩, hg', ?_, fun x hx => by (cases hx), JR_4 _⟩)⟩
      · rw [go2 f, tp2 12 g' rfl]
        simp only [Option.bind_some]
        rw [if_pos (show nI 12 = (12 : Int32) from rfl), M4.sign]
        simp only [Option.bind_some]
        rw [if_pos h93]
        unfold j_X11_test_164
        simp only [zlet]
        rw [M4.2.1.2.1, nI_1]
        have v38 : (uI s4 11 0 31 (nI (q + 1))).1 11 0 38 = nI (g'.length + 1) := by rw [uI_1, if_neg (by omega)]; exact d4
        rw [v38, nI_pred]
        have v36 : (uI (uI s4 11 0 31 (nI (q + 1))) 11 0 38 (nI g'.length)).1 11 0 36 = nI (ctn 9 g' + ctn 12 g' + 1) := by rw [uI_1, if_neg (by omega), uI_1, if_neg (by omega), d2, e9, e12]; rfl
        rw [v36, nI_pred]; rfl
      · rw [htA]
        refine M4.m11 (fun k j q1 q2 => by rw [uI_1, if_neg (by omega), uI_1, if_neg (by omega), uI_1, if_neg (by omega)]) (by simp [uI_1]) (by omega) (by simp [uI_1, M4.2.1.1]) (by simp [uI_1]) (by simp [uI_1]) (by simp [uI_1, d3]) (by simp [uI_1]) (hAt_cg d5.2 (fun j _ => by rw [uI_1, if_neg (by omega), uI_1, if_neg (by omega), uI_1, if_neg (by omega)]))
      · obtain ⟨x1, x2, x3, x4, x5, x6⟩ := I2
        refine ⟨by rw [tsg_o (by decide) (by decide)] at x1; exact x1, x2, x3, by rw [e9] at x4; omega, by omega, x6⟩
      · rw [List.nil_append]
        rw [hlA, List.length_cons] at hl
        omega
      · rw [e9] at c9r; rw [e12] at c12r; omega
    · obtain ⟨f1, f2⟩ := flt_ok (c := 0) (q := q) (by omega) (by decide) (by decide)
      obtain ⟨z, z1, z2, z3⟩ := M4.fails (m := t + 1) (by omega) 0 (by decide) (by decide) (q := q) (by omega)
      obtain ⟨y, y1, y2⟩ : ∃ σ', d_X5_take τ = some σ' ∧ FC c1 L σ' (flt 0 0 q) := by
        rcases hT with h | ⟨-, h⟩
        · rw [h]
          exact T.bad (by omega) k hq w17f w18f (fun e => absurd e h93) (fun _ => c0')
        · exact h
      refine ⟨uI (uI (uI z 11 0 31 (nI (q + 1))) 11 0 38 (z.1 11 0 38 - 1)) 11 0 36 (z.1 11 0 36 - 1), false, 1, fun f => ?_, Or.inr (Or.inr (Or.inr ⟨_, 1, y, f1, f2, by omega, st y y1, y2, ?_⟩))⟩
      · rw [go2 f, tp2 12 g' rfl]
        simp only [Option.bind_some]
        rw [if_pos (show nI 12 = (12 : Int32) from rfl), M4.sign]
        simp only [Option.bind_some]
        rw [if_neg h93, M4.2.1.2.1, z1]
        simp only [Option.bind_some]
        unfold j_X11_test_164
        simp only [zlet]
        rw [z3, nI_1]
        have v38 : (uI z 11 0 31 (nI (q + 1))).1 11 0 38 = z.1 11 0 38 := by rw [uI_1, if_neg (by omega)]
        rw [v38]
        have v36 : (uI (uI z 11 0 31 (nI (q + 1))) 11 0 38 (z.1 11 0 38 - 1)).1 11 0 36 = z.1 11 0 36 := by rw [uI_1, if_neg (by omega), uI_1, if_neg (by omega)]
        rw [v36]; rfl
      · obtain ⟨x1, x2, x3, p, x4, x5⟩ := z2.up (p := q + 1) (by omega)
        exact ⟨x1.m11 (fun k j q1 q2 => by rw [uI_1, if_neg (by omega), uI_1, if_neg (by omega)]), by rw [uI_1, if_neg (by omega), uI_1, if_neg (by omega)]; exact x2, x3, p, x4, by rw [uI_1, if_neg (by omega), uI_1, if_neg (by omega)]; exact x5⟩
end
