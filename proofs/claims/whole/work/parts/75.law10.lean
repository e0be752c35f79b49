/-! CALLS: law, a TEST on both sides -/
theorem hd3 {rest : List Nat} (h : rest = [] ∨ ∃ g', rest = 12 :: g' ∧ gw 0 g') : ∀ x r, rest = x :: r → x = 12 := fun x r e => by
  rcases h with h | ⟨g', h, -⟩
  · rw [h] at e; cases e
  · rw [h] at e; cases e; rfl
theorem hd2 {rest : List Nat} (h : rest = [] ∨ ∃ g', rest = 12 :: g' ∧ gw 0 g') (o : Nat) : ∀ x r, List.replicate o 11 ++ rest = x :: r → x = 11 ∨ x = 12 := fun x r e => by
  cases o with
  | zero => exact Or.inr (hd3 h x r e)
  | succ o => cases e; exact Or.inl rfl
theorem hd1 {rest : List Nat} (h : rest = [] ∨ ∃ g', rest = 12 :: g' ∧ gw 0 g') (a o : Nat) : ∀ x r, List.replicate a 10 ++ (List.replicate o 11 ++ rest) = x :: r → x = 10 ∨ x = 11 ∨ x = 12 := fun x r e => by
  cases a with
  | zero => exact Or.inr (hd2 h o x r e)
  | succ a => cases e; exact Or.inl rfl
theorem in_rep {n k x : Nat} (h : x ∈ List.replicate n k) : x = k := (List.mem_replicate.mp h).2
/-- how the class comes to a joint -/
def JR (b : Nat → Int32) (t : Nat) (c1 : zH) (L B : Nat) (q : Nat) (ex sg : Int32) (cnt : Nat) (h : List Nat) (cc : List qop) : Prop := ¬ ex = 5 ∧ ∀ τ, tkn b t q τ → CC b t c1 L B τ (tkA b t q) ex sg cnt h cc → d_X5_take τ = d_X5_takeJoint τ ∨ (isC (pk b t q) ∧ ∃ σ', d_X5_take τ = some σ' ∧ FC c1 L σ' (flt 0 0 q))
section
variable (b : Nat → Int32) (t : Nat) (c1 m1 : zH) (L B c0 N0 : Nat)
def W1 (σc σm : zH) (pc pm : Nat) (sg : Int32) (cnt : Nat) (g : List Nat) (cc cm : List qop) : Prop := PT b t c1 m1 L B c0 N0 σc σm pc pm 1 sg cnt [] g g cc cm (tsg g) ∧ gw 0 g ∧ ctn 9 g + ctn 12 g ≤ 10
def W0 (σc σm : zH) (pc pm : Nat) (ex sg : Int32) (cnt : Nat) (A g : List Nat) (cc cm : List qop) : Prop := PT b t c1 m1 L B c0 N0 σc σm pc pm ex sg cnt A g g cc cm (true :: tsg g) ∧ gw 0 g ∧ ctn 9 g + ctn 12 g ≤ 10 ∧ (∀ x, x ∈ A → acO x) ∧ JR b t c1 L B (en isB b t pc) ex sg cnt (A ++ g) cc
/-- a TEST has been read -/
def TE (pc : Nat) (σc σm' : zH) : Prop := (∃ k σc' pc' q ex' sg' cnt' A' cc' cm', k + pc ≤ pc' ∧ cgo k σc σc' ∧ CC b t c1 L B σc' pc' ex' sg' cnt' A' cc' ∧ MM b t m1 L B σm' q cnt' [] cm' ∧ cm' = cc' ++ ops A' ∧ en isB b t pc' = q ∧ en isB b t q = q ∧ A'.length ≤ pc' ∧ IV B c0 N0 pc' cnt' [] cm' [true] ∧ (∀ x, x ∈ A' → x ≠ 12 ∧ 1 < x ∧ ¬ qren x / 10 < 1) ∧ wrd b t q 17 = false ∧ wrd b t q 18 = false ∧ JR b t c1 L B q ex' sg' cnt' A' cc') ∨ FT b t c1 m1 L B (t + 1) pc σc σm'
end
section
variable {b : Nat → Int32} {t : Nat} {c1 m1 : zH} {L B c0 N0 : Nat} {σ σc σm : zH} {pc pm q m : Nat} {ex sg : Int32} {cnt : Nat} {A h0 h g : List Nat} {cc cm : List qop} {ts : List Bool} {f : Int32}
theorem FT.mono {m' : Nat} {σ' : zH} (F : FT b t c1 m1 L B m pc σc σ') (hm : m ≤ m') : FT b t c1 m1 L B m' pc σc σ' := by
  obtain ⟨ff, k5, σ5, f1, f2, f3, f4, f5, x1, x2, x3, p, x4, x5⟩ := F
  exact ⟨ff, k5, σ5, f1, f2, f3, f4, f5, x1, x2, x3, p, by omega, x5⟩
theorem TE.pre {k : Nat} {σc' σm' : zH} {pc' : Nat} (hs : cgo k σc σc') (hk : k + pc ≤ pc') (h : TE b t c1 m1 L B c0 N0 pc' σc' σm') : TE b t c1 m1 L B c0 N0 pc σc σm' := by
  rcases h with ⟨k2, σ2, p2, q2, x2, s2, n2, A2, cc2, cm2, a1, a2, a3⟩ | h
  · exact Or.inl ⟨k + k2, σ2, p2, q2, x2, s2, n2, A2, cc2, cm2, by omega, cgo_app hs a2, a3⟩
  · exact Or.inr (h.pre hs hk)
theorem JR_4 (q : Nat) : JR b t c1 L B q 4 sg cnt h cc := by
  refine ⟨by decide, fun τ k H => Or.inl ?_⟩
  unfold d_X5_take
  rw [H.2.2.1.2.2.1, if_neg (by decide), if_neg (by decide), if_neg (by decide), if_neg (by decide), bsome]
theorem JR_3 (hm : txm b t σm) (hN : N5 (pk b t q)) : JR b t c1 L B q 3 1 cnt h cc := by
  refine ⟨by decide, fun τ k H => ?_⟩
  have e : d_X5_take τ = d_X5_takeOperator τ := by
    unfold d_X5_take
    rw [H.2.2.1.2.2.1, if_neg (by decide), if_neg (by decide), if_neg (by decide), if_pos rfl, bsome]
  rw [e]
  by_cases hc : isC (pk b t q)
  · obtain ⟨k1, k2, k3, -⟩ := tk_cmp hc
    exact Or.inr ⟨hc, H.cmp2 k k1 k3 k2⟩
  · exact Or.inl (H.none1 k (noO_of hm hN hc))
/-- a FACT, or what stands ahead of one -/
theorem W_fact (W : W1 b t c1 m1 L B c0 N0 σc σm pc pm sg cnt g cc cm) : ∃ σm' r, d_X11_fact σm = some (σm', b2i r) ∧ ((r = false ∧ ∃ σc' pc' g', pc < pc' ∧ cgo 1 σc σc' ∧ W1 b t c1 m1 L B c0 N0 σc' σm' pc' pc' sg cnt g' cc cm) ∨ (r = true ∧ ∃ k σc' pc' pm' cnt' A' cc' cm', k + pc ≤ pc' ∧ cgo k σc σc' ∧ W0 b t c1 m1 L B c0 N0 σc' σm' pc' pm' 3 1 cnt' A' g cc' cm') ∨ FT b t c1 m1 L B (t + 1) pc σc σm') := by
  obtain ⟨P, hgw, hd⟩ := W
  have P0 := P
  obtain ⟨H, M, e1, e2, I, hl⟩ := P
  rw [List.nil_append] at H hl
  have t400 := H.1.1.1
  have hpc := H.2.1.2.2
  obtain ⟨τ, n1, k, hq, T⟩ := H.next
  obtain ⟨σ2, b2, M2⟩ := M.blanks
  rw [← e2] at M2
  have hs := (en_spec isB_m1 b t pc).1
  generalize hqe : en isB b t pc = q at n1 k hq T M2 hs e2
  have hA := tkA_le (b := b) hq
  have st : ∀ σ', d_X5_takeFact τ = some σ' → cgo 1 σc σ' := fun σ' e => cgo_1 ⟨by rw [H.2.2.1.2.2.1]; decide, H.2.1.1, τ, n1, by
    unfold d_X5_take
    rw [T.2.2.1.2.2.1, if_neg (by decide), if_pos rfl, bsome]; exact e⟩
  have i91 := x7_isSign T.1.1 91 k
  rw [tk_is (c := 91) (by decide) (by decide) (by decide) (by decide) (by decide) (by decide) (by decide)] at i91
  have i6 := x7_isWord T.1.1 k hq 6 (by omega)
  unfold d_X11_fact
  rw [b2]
  simp only [Option.bind_some]
  rw [x11_stood M2.1.1 M2.2.1.2.1 hq 25 (by omega), wrd_cg (e := 25) (e' := 6) (by decide +kernel) q]
  simp only [Option.bind_some]
  rw [b2i_if]
  -- nested one deeper
  have nest : ∀ x, (x = 9 ∨ x = 12) → d_X5_takeFact τ = j_X5_takeFact_36 τ (if x = 9 then 0 else 1) → pk b t q ≠ -1 → tkA b t q = q + (if x = 9 then 3 else 1) → ∃ σm', ((d_X11_opens σ2 (nI x)).bind fun s => some (uI s 11 0 31 (s.1 11 0 31 + nI (if x = 9 then 3 else 1)), (0 : Int32))) = some (σm', b2i false) ∧ ((∃ σc' pc' g', pc < pc' ∧ cgo 1 σc σc' ∧ W1 b t c1 m1 L B c0 N0 σc' σm' pc' pc' sg cnt g' cc cm) ∨ FT b t c1 m1 L B (t + 1) pc σc σm') := fun x hx hf hne hta => by
    have hlt := hA.2.2 hne
    obtain ⟨v1, v2⟩ := T.nest k (by omega) hx
    by_cases h10 : ctn 9 g + ctn 12 g < 10
    · obtain ⟨y, y1, y2⟩ := v1 h10
      obtain ⟨z, z1, z2⟩ := M2.nest (by omega) hx h10
      rw [z1]
      simp only [Option.bind_some]
      rw [z2.2.1.2.1, nI_add, ← hta]
      refine ⟨_, rfl, Or.inl ⟨y, tkA b t q, x :: g, by omega, st y (by rw [hf, y1]), ⟨y2, z2.u31 hA.2.1, e1, rfl, ?_, by rw [List.nil_append, List.length_cons]; omega⟩, ?_, ?_⟩⟩
      · obtain ⟨a1, a2, a3, a4, a5, a6⟩ := I
        refine ⟨by rw [a1]; rcases hx with rfl | rfl <;> rw [tsg_o (by decide) (by decide)], a2, a3, ?_, by omega, a6⟩
        rw [ctn]
        split
        · rename_i e; rw [if_pos e] at hta; omega
        · omega
      · rcases hx with rfl | rfl
        · exact Or.inl ⟨rfl, rfl, hgw⟩
        · exact Or.inr (Or.inr (Or.inr ⟨rfl, hgw⟩))
      · rw [ctn, ctn]
        rcases hx with rfl | rfl
        · rw [if_pos rfl, if_neg (by decide)]; omega
        · rw [if_neg (by decide), if_pos rfl]; omega
    · obtain ⟨y, y1, y2⟩ := v2 (by omega)
      obtain ⟨z, z1, z2, z3⟩ := M2.deep (m := t + 1) (by omega) (by omega) hx (by omega)
      obtain ⟨f1, f2⟩ := flt_ok (c := 2) (q := q) (by omega) (by decide) (by decide)
      rw [z1]
      simp only [Option.bind_some]
      rw [z3, nI_add, ← hta]
      exact ⟨_, rfl, Or.inr ⟨_, 1, y, f1, f2, by omega, st y (by rw [hf, y1]), y2, z2.up (by omega)⟩⟩
  by_cases h6 : wrd b t q 6 = true
  · rw [if_pos h6]
    have hW := wrd_W (by omega) h6
    have h91 : decide (pk b t q = 91) = false := decide_eq_false (fun e => by rw [e] at hW; exact absurd hW (by decide))
    have hf : d_X5_takeFact τ = j_X5_takeFact_36 τ (if (9 : Nat) = 9 then 0 else 1) := by
      unfold d_X5_takeFact
      rw [i91, h91]
      simp only [Option.bind_some]
      rw [b2i_f, if_pos rfl, i6, h6]
      simp only [Option.bind_some]
      rw [b2i_if, if_pos rfl]
      rfl
    obtain ⟨σm', r1, r2⟩ := nest 9 (Or.inl rfl) hf (isW_ne hW).1 (by rw [(wrd_end (by omega) h6).2]; rfl)
    refine ⟨σm', false, r1, ?_⟩
    rcases r2 with r2 | r2
    · exact Or.inl ⟨rfl, r2⟩
    · exact Or.inr (Or.inr r2)
  · rw [if_neg h6, M2.sign]
    simp only [Option.bind_some]
    have h6f : wrd b t q 6 = false := by
      cases hh : wrd b t q 6 with
      | false => rfl
      | true => exact absurd hh h6
    by_cases h91 : pk b t q = 91
    · rw [if_pos h91]
      have hf : d_X5_takeFact τ = j_X5_takeFact_36 τ (if (12 : Nat) = 9 then 0 else 1) := by
        unfold d_X5_takeFact
        rw [i91, decide_eq_true h91]
        simp only [Option.bind_some]
        rw [b2i_t, if_neg i10]
        rfl
      obtain ⟨σm', r1, r2⟩ := nest 12 (Or.inr rfl) hf (by rw [h91]; decide) (tk_sg h91 (by decide) (by decide) (by decide) (by decide) (by decide)).2.2
      refine ⟨σm', false, r1, ?_⟩
      rcases r2 with r2 | r2
      · exact Or.inl ⟨rfl, r2⟩
      · exact Or.inr (Or.inr r2)
    · rw [if_neg h91]
      have eq : en isB b t q = q := by rw [← hqe]; exact en_stop (en_spec isB_m1 b t pc).2.2.2
      have P2 : PT b t c1 m1 L B c0 N0 σc σ2 pc q 1 sg cnt [] g g cc cm (tsg g) := ⟨H, M2, e1, by rw [hqe, eq], I, hl⟩
      have R : VR b t c1 L B (en isB b t pc) 1 sg 0 cnt g cc := by
        rw [hqe]
        refine ⟨by decide, fun τ' k' H' => ⟨uI τ' 5 0 3 0, 1, ?_, ?_, H'.u3 0⟩⟩
        · have j91 := x7_isSign H'.1.1 91 k'
          rw [tk_is (c := 91) (by decide) (by decide) (by decide) (by decide) (by decide) (by decide) (by decide), decide_eq_false h91] at j91
          unfold d_X5_take d_X5_takeFact
          rw [H'.2.2.1.2.2.1, if_neg (by decide), if_pos rfl, bsome, j91]
          simp only [Option.bind_some]
          rw [b2i_f, if_pos rfl, x7_isWord H'.1.1 k' hq 6 (by omega), h6f]
          simp only [Option.bind_some]
          rw [b2i_f, if_pos rfl]
          simp only [zlet, bsome]
        · have s : sc7 τ' (uI τ' 5 0 3 0) := fun j => by rw [uI_1, if_neg (by omega)]
          exact s.tk k'
      have h0r : ∀ x r, g = x :: r → qren x / 10 < 4 := fun x r e => by
        rw [e] at hgw
        rcases hgw with ⟨a, -⟩ | ⟨a, -⟩ | ⟨a, -⟩ | ⟨a, -⟩ <;> rw [a] <;> decide
      obtain ⟨σ3, e3, R3⟩ := C_both P2 R h0r
      rw [e3]
      simp only [Option.bind_some]
      refine ⟨σ3, true, rfl, ?_⟩
      rcases R3 with ⟨k4, σ4, pc4, pm4, cnt4, A4, cc4, cm4, q1, s4, P4, hp4, hA4, hN4⟩ | F
      · refine Or.inr (Or.inl ⟨rfl, k4, σ4, pc4, pm4, cnt4, A4, cc4, cm4, q1, s4, P4, hgw, hd, hA4, ?_⟩)
        rw [P4.2.2.2.1, hp4]
        exact JR_3 P4.2.1.1.1 hN4
      · exact Or.inr (Or.inr (F.mono (by omega)))
end
