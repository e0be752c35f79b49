/-! CALLS: law, a clause on both sides -/
section
variable (b : Nat → Int32) (t : Nat) (σc0 σm0 : zH) (L : Nat)
def LPc (cl : List (Bool × List qop)) (B : Nat) (σc : zH) (pc : Nat) (sg : Int32) (cnt : Nat) : Prop := CC b t σc L B σc pc 0 sg cnt [] [] ∧ zsm (Fl L) σc0 σc ∧ σc.1 4 L 0 = nI cl.length ∧ (0 < cl.length → σc.1 25 L cl.length = nI B) ∧ rLq σc L cl B
def LPm (cl : List (Bool × List qop)) (B : Nat) (σm : zH) (pm cnt : Nat) : Prop := (txm b t σm ∧ (∀ k j, ¬ Fml L k j → σm.1 k 0 j = σm0.1 k 0 j)) ∧ (σm.1 11 0 32 = 0 ∧ σm.1 11 0 31 = nI pm ∧ pm ≤ t) ∧ (σm.1 11 0 33 = nI L ∧ σm.1 11 0 39 = 10 ∧ σm.1 11 0 35 = nI B ∧ σm.1 11 0 36 = 0 ∧ σm.1 11 0 37 = nI cnt) ∧ rMq σm L cl B
/-- a clause read without a fault: it goes on -/
def L_on (cl : List (Bool × List qop)) (B pc : Nat) (σc σm2 : zH) : Prop := ∃ k σc' pc' sg' cnt' N0' code kk, pc < pc' ∧ k + pc ≤ pc' ∧ cgo k σc σc' ∧ LPc b t σc0 L (cl ++ [(kk, code)]) (B + code.length) σc' pc' sg' cnt' ∧ LPm b t σm0 L (cl ++ [(kk, code)]) (B + code.length) σm2 pc' cnt' ∧ (B + code.length ≤ 2 * cnt' + N0' ∧ 3 * N0' ≤ pc' ∧ cnt' ≤ 60)
def L_end (cl : List (Bool × List qop)) (B pc : Nat) (σc σm2 : zH) : Prop := ∃ k σc' kk code, k + pc ≤ t + 1 ∧ cgo k σc σc' ∧ σc'.1 5 0 2 = 5 ∧ σc'.1 7 0 5 = 0 ∧ zsm (Fl L) σc0 σc' ∧ σc'.1 4 L 0 = nI (cl.length + 1) ∧ rLq σc' L (cl ++ [(kk, code)]) (B + code.length) ∧ (∀ k j, ¬ Fml L k j → σm2.1 k 0 j = σm0.1 k 0 j) ∧ σm2.1 11 0 32 = 0 ∧ rMq σm2 L (cl ++ [(kk, code)]) (B + code.length) ∧ B + code.length ≤ 300
def L_bad (pc : Nat) (σc σm2 : zH) : Prop := ∃ f k σc', ¬ f = 0 ∧ 0 ≤ f.toInt ∧ k + pc ≤ t + 1 ∧ cgo k σc σc' ∧ σc'.1 7 0 5 = f ∧ zsm (Fl L) σc0 σc' ∧ (∀ k j, ¬ Fml L k j → σm2.1 k 0 j = σm0.1 k 0 j) ∧ σm2.1 11 0 32 = f
end
section
variable {b : Nat → Int32} {t : Nat} {σc0 σm0 σc σm : zH} {L B N0 : Nat} {cl : List (Bool × List qop)} {pc pm cnt q : Nat} {sg : Int32}
theorem Fq_Fl {k i : Nat} (h : Fq L k i) : Fl L k i := Or.inl h
theorem zm2.fr {σ σ' : zH} (z : zm2 σ σ') (h : ∀ k j, ¬ Fml L k j → σ.1 k 0 j = σm0.1 k 0 j) : ∀ k j, ¬ Fml L k j → σ'.1 k 0 j = σm0.1 k 0 j := fun k j hk => by
  rw [z.2 k 0 j (fun q => hk (Or.inr (Or.inl ⟨q.1, by omega⟩)))]
  exact h k j hk
/-- where a clause's word fails -/
theorem L_word (hz : zsm (Fl L) σc0 σc) (hM : LPm b t σm0 L cl B σm pm cnt) (hq : q ≤ t) {m1 : zH} (z : z31 σm m1 q) {c : Int32} (h0 : 0 ≤ c.toInt) (h7 : c.toInt ≤ 7) {σ' : zH} (hs : cgo 1 σc σ') (hF : FC σc L σ' (flt 0 c q)) (hpc : pc ≤ t) :
    ∃ σm1 σm2, (d_X11_fails m1 c (nI q)) = some σm1 ∧ d_X11_goesOn σm1 = some (σm2, b2i false) ∧ L_bad t σc0 σm0 L pc σc σm2 := by
  obtain ⟨⟨a1, a2⟩, ⟨b1, b2, b3⟩, -, -⟩ := hM
  have t400 := a1.1
  obtain ⟨m2, w1, w2, w3, w4⟩ := x11_fails m1 c q
  have m32 : m1.1 11 0 32 = 0 := by rw [z.2.1 _ _ _ (by omega)]; exact b1
  obtain ⟨f1, f2⟩ := flt_ok (c := c) (q := q) (by omega) h0 h7
  obtain ⟨m3, go, g1, g2, g3, -⟩ := x11_goes (f := flt 0 c q) (p := q) (w2.tx (z.tx a1)) (by rw [w4]; exact z.2.2) (by rw [w3, m32]) (by rw [if_neg f1]; omega)
  obtain ⟨g5, g6⟩ := g3 f1
  subst g5
  exact ⟨m2, m3, w1, g1, _, 1, σ', f1, f2, by omega, hs, hF.2, hz.tr (hF.1.mono (fun k i q => Fq_Fl q)), g2.fr (w2.fr (z.m2.fr a2)), g6⟩
theorem L_clause (Hc : LPc b t σc0 L cl B σc pc sg cnt) (Hm : LPm b t σm0 L cl B σm pm cnt) (e : en isB b t pc = en isB b t pm) (hB : B ≤ 2 * cnt + N0) (hN : 3 * N0 ≤ pc) (hcnt : cnt ≤ 60) (hn : cl.length ≤ 12) :
    ∃ σm1 σm2 go, d_X11_lawClause σm (nI cl.length) = some σm1 ∧ d_X11_goesOn σm1 = some (σm2, b2i go) ∧ ((go = true ∧ cl.length < 12 ∧ L_on b t σc0 σm0 L cl B pc σc σm2) ∨ (go = false ∧ cl.length < 12 ∧ L_end t σc0 σm0 L cl B pc σc σm2) ∨ (go = false ∧ L_bad t σc0 σm0 L pc σc σm2)) := by
  obtain ⟨H, hz, hc4, hc25, hrL⟩ := Hc
  have Hm0 := Hm
  obtain ⟨⟨a1, a2⟩, ⟨b1, b2, b3⟩, ⟨d1, d2, d3, d4, d5⟩, hrM⟩ := Hm
  have t400 := a1.1
  have hpc := H.2.1.2.2
  have hL := H.2.2.1.2.1
  obtain ⟨τ, n1, k, hq, T⟩ := H.next
  obtain ⟨m1, r1, z1⟩ := x11_blanks a1 b2 b3
  rw [← e] at z1
  have hsq := (en_spec isB_m1 b t pc).1
  generalize hqe : en isB b t pc = q at n1 k hq T z1 hsq
  have hA := tkA_le (b := b) hq
  have st : ∀ σ', d_X5_takeClause τ = some σ' → cgo 1 σc σ' := fun σ' e => cgo_1 ⟨by rw [H.2.2.1.2.2.1]; decide, H.2.1.1, τ, n1, by
    unfold d_X5_take
    rw [T.2.2.1.2.2.1, if_pos rfl, bsome]; exact e⟩
  have i4 := x7_isWord T.1.1 k hq 4 (by omega)
  have i5 := x7_isWord T.1.1 k hq 5 (by omega)
  have s23 := x11_stood (z1.tx a1) z1.2.2 hq 23 (by omega)
  have s24 := x11_stood (z1.tx a1) z1.2.2 hq 24 (by omega)
  rw [wrd_cg (e := 23) (e' := 5) (by decide +kernel) q] at s23
  rw [wrd_cg (e := 24) (e' := 4) (by decide +kernel) q] at s24
  have hcl : d_X11_lawClause σm (nI cl.length) = if wrd b t q 5 = true then j_X11_lawClause_38 m1 (nI cl.length) (nI q) (b2i true) else if wrd b t q 4 = true then j_X11_lawClause_38 m1 (nI cl.length) (nI q) (b2i false) else d_X11_fails m1 (0 : Int32) (nI q) := by
    unfold d_X11_lawClause
    rw [r1]
    simp only [Option.bind_some]
    rw [s23]
    simp only [Option.bind_some]
    rw [s24]
    simp only [Option.bind_some, z1.2.2]
    rw [b2i_if, b2i_if]
    cases h5 : wrd b t q 5 with
    | true => rfl
    | false =>
      cases h4 : wrd b t q 4 with
      | true => rfl
      | false => exact bsome _
  have htc : d_X5_takeClause τ = if wrd b t q 4 = true then j_X5_takeClause_37 τ (b2i true) else if wrd b t q 5 = true then j_X5_takeClause_37 τ (b2i false) else d_X7_fail τ (0 : Int32) := by
    unfold d_X5_takeClause
    rw [i4]
    simp only [Option.bind_some]
    rw [b2i_if]
    cases h4 : wrd b t q 4 with
    | true => rfl
    | false =>
      rw [i5]
      simp only [Option.bind_some]
      rw [b2i_if]
      cases h5 : wrd b t q 5 with
      | true => rfl
      | false => exact bsome _
  by_cases hw : wrd b t q 4 = true ∨ wrd b t q 5 = true
  · -- a clause's word
    obtain ⟨kk, hk1, hk2, htA, hne⟩ : ∃ kk : Bool, d_X5_takeClause τ = j_X5_takeClause_37 τ (b2i kk) ∧ d_X11_lawClause σm (nI cl.length) = j_X11_lawClause_38 m1 (nI cl.length) (nI q) (b2i (!kk)) ∧ tkA b t q = q + (if kk then 5 else 4) ∧ pk b t q ≠ -1 := by
      by_cases h4 : wrd b t q 4 = true
      · have h5 : wrd b t q 5 = false := wrd_2 (e := 4) (e' := 5) (by decide +kernel) h4
        exact ⟨true, by rw [htc, if_pos h4], by rw [hcl, h5, if_neg (by decide), if_pos h4]; rfl, (wrd_end (by omega) h4).2, (isW_ne (wrd_W (by omega) h4)).1⟩
      · have h5 := hw.resolve_left h4
        exact ⟨false, by rw [htc, if_neg h4, if_pos h5], by rw [hcl, if_pos h5]; rfl, (wrd_end (by omega) h5).2, (isW_ne (wrd_W (by omega) h5)).1⟩
    have hqlt := hA.2.2 hne
    have τ4 : τ.1 4 L 0 = nI cl.length := by rw [T.1.2.2.1]; exact hc4
    have τ43 : τ.1 4 L 3 = nI B := T.2.2.2.2.1
    unfold j_X5_takeClause_37 d_X4_isFull at hk1
    rw [T.2.2.1.1, ix_nI hL (by omega), τ4] at hk1
    unfold j_X11_lawClause_38 at hk2
    by_cases h12 : cl.length = 12
    · -- one too many
      rw [if_neg (show ¬ nI cl.length < (12 : Int32) from nI_nlt (b := 12) (by omega) (by omega))] at hk1
      simp only [Option.bind_some] at hk1
      rw [if_neg i10, bsome] at hk1
      rw [if_pos (show nI cl.length = (12 : Int32) by rw [h12]; rfl), bsome] at hk2
      obtain ⟨y, y1, y2⟩ := T.fail k 4
      obtain ⟨σm1, σm2, w1, w2, w3⟩ := L_word hz Hm0 hq z1 (c := 4) (by decide) (by decide) (st y (by rw [hk1, y1])) y2 hpc
      exact ⟨σm1, σm2, false, by rw [hk2, w1], w2, Or.inr (Or.inr ⟨rfl, w3⟩)⟩
    · rw [if_pos (show nI cl.length < (12 : Int32) from nI_lt (b := 12) (by omega) (by omega))] at hk1
      simp only [Option.bind_some, if_true] at hk1
      rw [T.2.2.1.1, ix_nI hL (by omega)] at hk1
      unfold d_X4_openClause at hk1
      rw [τ4, if_pos (show nI cl.length < (12 : Int32) from nI_lt (b := 12) (by omega) (by omega)), tv_01 (b2i_01 kk), ix_nI (by omega) (by omega)] at hk1
      simp only [zlet, Nat.add_zero] at hk1
      rw [show (uI τ 24 L cl.length (b2i kk)).1 4 L 0 = nI cl.length by rw [uI_1, if_neg (by omega)]; exact τ4, ix_nI (by omega) (by omega), show (uI τ 24 L cl.length (b2i kk)).1 4 L 3 = nI B by rw [uI_1, if_neg (by omega)]; exact τ43] at hk1
      simp only [Option.bind_some] at hk1
      rw [if_neg (show ¬ nI cl.length = (12 : Int32) from fun w => by have := (nI_eq (a := cl.length) (b := 12) (by omega) (by omega)).mp w; omega)] at hk2
      generalize hn0 : cl.length = n at *
      generalize hc1 : uI (uI (uI τ 24 L n (b2i kk)) 25 L n (nI B)) 5 0 2 1 = c1 at hk1
      have hn12 : n < 12 := by omega
      have e12 : (12 : Int32) * nI L + nI n = nI (12 * L + n) := by rw [show (12 : Int32) = nI 12 from rfl, pk_mul, nI_add]
      generalize hmA : uI (uI (uI m1 11 0 31 (nI (tkA b t q))) 74 0 (12 * L + n) (b2i (!kk))) 75 0 (12 * L + n) (nI B) = mA
      have hk3 : d_X11_lawClause σm (nI n) = (d_X11_test mA).bind fun s => some (uI s 76 0 (12 * L + n) (s.1 11 0 35)) := by
        have g33 : (uI m1 11 0 31 (nI (tkA b t q))).1 11 0 33 = nI L := by rw [uI_1, if_neg (by omega), z1.2.1 _ _ _ (by omega)]; exact d1
        have g35 : (uI (uI m1 11 0 31 (nI (tkA b t q))) 74 0 (12 * L + n) (b2i (!kk))).1 11 0 35 = nI B := by rw [uI_1, if_neg (by omega), uI_1, if_neg (by omega), z1.2.1 _ _ _ (by omega)]; exact d3
        rw [hk2]
        unfold j_X11_lawClause_65 j_X11_lawClause_95
        rw [z1.2.2]
        cases kk with
        | true =>
          rw [show b2i (!true) = 0 from rfl, if_pos rfl, show nI q + (5 : Int32) = nI (tkA b t q) by rw [htA]; exact nI_add q 5]
          simp only [zlet]
          rw [g33, e12, if_pos trivial, ix_nI (by omega) (by omega), ix_nI (by omega) (by omega)]
          rw [show b2i (!true) = 0 from rfl] at g35 hmA
          rw [g35, hmA]
          simp only [ix_nI (show 12 * L + n < 72 by omega) (show 72 < 2 ^ 31 by omega)]
        | false =>
          rw [show b2i (!false) = 1 from rfl, if_neg i10, show nI q + (4 : Int32) = nI (tkA b t q) by rw [htA]; exact nI_add q 4]
          simp only [zlet]
          rw [g33, e12, if_neg i10, ix_nI (by omega) (by omega), ix_nI (by omega) (by omega)]
          rw [show b2i (!false) = 1 from rfl] at g35 hmA
          rw [g35, hmA]
          simp only [ix_nI (show 12 * L + n < 72 by omega) (show 72 < 2 ^ 31 by omega)]
      -- the class within the clause
      obtain ⟨⟨t1, t2, t3, t4⟩, ⟨t5, t6, t7⟩, ⟨t8, t9, t10, t11, t12⟩, ⟨t13, t14, t15, t16⟩, ⟨t17, t18⟩⟩ := T
      have u : ∀ k i j, ¬ (i = L ∧ (k = 24 ∨ k = 25)) → ¬ (k = 5 ∧ j = 2) → c1.1 k i j = τ.1 k i j := fun k i j q1 q2 => by rw [← hc1, uI_1, if_neg (by omega), uI_1, if_neg (by omega), uI_1, if_neg (by omega)]
      have H1 : CC b t c1 L B c1 (tkA b t q) 1 sg cnt [] [] := ⟨⟨t1.mv (u _ _ _ (by omega) (by omega)) (funext fun j => u _ _ _ (by omega) (by omega)), zsm.rf, rfl, fun _ _ => ⟨rfl, rfl⟩⟩, ⟨by rw [u _ _ _ (by omega) (by omega)]; exact t5, by rw [u _ _ _ (by omega) (by omega)]; exact t6, t7⟩, ⟨by rw [u _ _ _ (by omega) (by omega)]; exact t8, t9, by rw [← hc1, uI_1, if_pos ⟨rfl, rfl, rfl⟩], by rw [u _ _ _ (by omega) (by omega)]; exact t11, by rw [u _ _ _ (by omega) (by omega)]; exact t12⟩, ⟨by rw [u _ _ _ (by omega) (by omega)]; exact t13, by rw [u _ _ _ (by omega) (by omega)]; exact t14, by rw [u _ _ _ (by omega) (by omega)]; exact t15, trivial⟩, ⟨by rw [u _ _ _ (by omega) (by omega)]; exact t17, trivial⟩⟩
      have zc1 : zsm (Fl L) σc0 c1 := by
        rw [← hc1]
        exact (((hz.tr (t2.mono (fun k i q => Fq_Fl q))).uI (Or.inr ⟨Or.inl rfl, rfl⟩) _ _).uI (Or.inr ⟨Or.inr rfl, rfl⟩) _ _).uI (Or.inl (Or.inr (Or.inl rfl))) _ _
      -- the reference within the clause
      have v : ∀ k j, ¬ (k = 11 ∧ j = 31) → ¬ ((k = 74 ∨ k = 75) ∧ j = 12 * L + n) → mA.1 k 0 j = σm.1 k 0 j := fun k j q1 q2 => by rw [← hmA, uI_1, if_neg (by omega), uI_1, if_neg (by omega), uI_1, if_neg (by omega), z1.2.1 _ _ _ (by omega)]
      have v31 : mA.1 11 0 31 = nI (tkA b t q) := by rw [← hmA, uI_1, if_neg (by omega), uI_1, if_neg (by omega), uI_1, if_pos ⟨rfl, rfl, rfl⟩]
      have vS : ∀ k j, ¬ (k = 11 ∧ j = 38) → (uI mA 11 0 38 (nI 0)).1 k 0 j = mA.1 k 0 j := fun k j q1 => by rw [uI_1, if_neg (by omega)]
      have M1 : MM b t (uI mA 11 0 38 (nI 0)) L B (uI mA 11 0 38 (nI 0)) (tkA b t q) cnt [] [] := by
        refine ⟨⟨a1.mv (by rw [vS _ _ (by omega), v _ _ (by omega) (by omega)]) (funext fun j => by rw [vS _ _ (by omega), v _ _ (by omega) (by omega)]), fun _ _ _ => rfl, by rw [vS _ _ (by omega), v _ _ (by omega) (by omega)]; exact d1, hL, by rw [vS _ _ (by omega), v _ _ (by omega) (by omega)]; exact d2⟩, ⟨by rw [vS _ _ (by omega), v _ _ (by omega) (by omega)]; exact b1, by rw [vS _ _ (by omega)]; exact v31, hA.2.1⟩, ⟨by rw [vS _ _ (by omega), v _ _ (by omega) (by omega)]; exact d3, by rw [vS _ _ (by omega), v _ _ (by omega) (by omega), d4]; exact nI_0.symm, by rw [vS _ _ (by omega), v _ _ (by omega) (by omega)]; exact d5, by rw [uI_1, if_pos ⟨rfl, rfl, rfl⟩]; rfl, trivial⟩, trivial⟩
      have I1 : IV B cnt N0 (tkA b t q) cnt [] [] [] := ⟨rfl, by show 0 + cnt ≤ cnt; omega, hcnt, by show 3 * (N0 + 0 + 0) ≤ _; omega, by omega, hB⟩
      have frS : ∀ σ3, (∀ k j, ¬ Fm L B k j → σ3.1 k 0 j = (uI mA 11 0 38 (nI 0)).1 k 0 j) → ∀ x k j, ¬ Fml L k j → (uI σ3 76 0 (12 * L + n) x).1 k 0 j = σm0.1 k 0 j := fun σ3 h3 x k j hk => by
        unfold Fml at hk
        rw [uI_1, if_neg (by omega), h3 k j (by unfold Fm; omega), vS _ _ (by omega), v _ _ (by omega) (by omega)]
        exact a2 k j (by unfold Fml; omega)
      obtain ⟨σ3, e3, R3⟩ := W_test H1 M1 I1
      rw [e3] at hk3
      simp only [Option.bind_some] at hk3
      have s1 := st c1 hk1
      rcases R3 with ⟨k2, σ2, pc2, q2, ex2, sg2, cnt2, A2, cc2, cm2, r1, r2, r3, r4, r5, r6, r7, r8, r9, r10, r11, r12, r13⟩ | ⟨ff, k5, σ5, f1, f2, f3, f4, f5, f6⟩
      · have l9 := r9.len
        have hcm : cm2.length = cc2.length + A2.length := by rw [r5, List.length_append]; simp [ops]
        have e35 : σ3.1 11 0 35 = nI (B + cm2.length) := r4.2.2.1.1
        have u76 : ∀ k j, ¬ (k = 76 ∧ j = 12 * L + n) → (uI σ3 76 0 (12 * L + n) (nI (B + cm2.length))).1 k 0 j = σ3.1 k 0 j := fun k j q1 => by rw [uI_1, if_neg (by omega)]
        have q2t := r4.2.1.2.2
        rw [e35] at hk3
        obtain ⟨m3, go, g1, g2, -, g4⟩ := x11_goes (f := 0) (p := q2) (σ := uI σ3 76 0 (12 * L + n) (nI (B + cm2.length))) (r4.1.1.mv (u76 _ _ (by omega)) (funext fun j => u76 _ _ (by omega))) (by rw [u76 _ _ (by omega)]; exact r4.2.1.2.1) (by rw [u76 _ _ (by omega)]; exact r4.2.1.1) (by rw [if_pos rfl]; exact q2t)
        obtain ⟨g5, g6, g7⟩ := g4 rfl
        rw [r7] at g5 g6 g7
        obtain ⟨τ2, n2, k', hq2, T2⟩ := r3.next
        rw [r6] at k' hq2 T2
        have hA2 := tkA_le (b := b) hq2
        have hsq2 := (en_spec isB_m1 b t pc2).1
        rw [r6] at hsq2
        have st2 : ∀ σ', d_X5_take τ2 = some σ' → cgo 1 σ2 σ' := fun σ' e => cgo_1 ⟨by rw [r3.2.2.1.2.2.1]; exact r13.1, r3.2.1.1, τ2, n2, e⟩
        have hT := r13.2 τ2 k' T2
        have fr3 := g2.fr (frS σ3 r4.1.2.1 (nI (B + cm2.length)))
        have nine := qty_len r9.1
        obtain ⟨i1, i2, i3, i4', i5', i6⟩ := r9
        simp only [List.length_nil, List.length_cons] at nine
        have hctn : ctn 9 ([] : List Nat) = 0 := rfl
        by_cases hp : pk b t q2 = -1 ∨ pk b t q2 = 59
        · -- the clause ends
          have hTT : d_X5_take τ2 = d_X5_takeJoint τ2 := by
            rcases hT with h | ⟨h, -⟩
            · exact h
            · exfalso
              rcases hp with hp | hp <;> rw [hp] at h <;> rcases h with h | h | h <;> exact absurd h (by decide)
          have h4c : c1.1 4 L 0 = nI n := by rw [u _ _ _ (by omega) (by omega)]; exact τ4
          obtain ⟨τ3, T3, J⟩ := T2.done k' hq2 hp (by omega) (by omega) r10 hn12 h4c
          rw [← r5] at T3 J
          generalize hR : uI (uI (uI τ3 4 L 0 (nI (n + 1))) 25 L (n + 1) (nI (B + cm2.length))) 5 0 2 (if pk b t q2 = -1 then 5 else 0) = R at J
          have w : ∀ k i j, ¬ (k = 4 ∧ i = L ∧ j = 0) → ¬ (k = 25 ∧ i = L ∧ j = n + 1) → ¬ (k = 5 ∧ i = 0 ∧ j = 2) → R.1 k i j = τ3.1 k i j := fun k i j q1 q2 q3 => by rw [← hR, uI_1, if_neg (by omega), uI_1, if_neg (by omega), uI_1, if_neg (by omega)]
          obtain ⟨⟨x1, x2, x3, x4⟩, ⟨x5, x6, x7⟩, ⟨x8, x9, x10, x11, x12⟩, ⟨x13, x14, x15, x16⟩, ⟨x17, x18⟩⟩ := T3
          have zR : zsm (Fl L) σc0 R := by
            rw [← hR]
            exact (((zc1.tr (x2.mono (fun k i q => Fq_Fl q))).uI (Or.inl (Or.inr (Or.inr (Or.inr ⟨Or.inl rfl, rfl⟩)))) _ _).uI (Or.inr ⟨Or.inr rfl, rfl⟩) _ _).uI (Or.inl (Or.inr (Or.inl rfl))) _ _
          have R4 : R.1 4 L 0 = nI (n + 1) := by rw [← hR, uI_1, if_neg (by omega), uI_1, if_neg (by omega), uI_1, if_pos ⟨rfl, rfl, rfl⟩]
          have R25 : R.1 25 L (n + 1) = nI (B + cm2.length) := by rw [← hR, uI_1, if_neg (by omega), uI_1, if_pos ⟨rfl, rfl, rfl⟩]
          -- rows 24, 25 as the clause's word left them
          have r24 : ∀ j, R.1 24 L j = c1.1 24 L j := fun j => by rw [w _ _ _ (by omega) (by omega) (by omega), (x2 24 L (by unfold Fq; omega)).1]
          have r25 : ∀ j, j ≠ n + 1 → R.1 25 L j = c1.1 25 L j := fun j hj => by rw [w _ _ _ (by omega) (by omega) (by omega), (x2 25 L (by unfold Fq; omega)).1]
          have c24 : ∀ j, j ≠ n → c1.1 24 L j = σc.1 24 L j := fun j hj => by
            rw [← hc1, uI_1, if_neg (by omega), uI_1, if_neg (by omega), uI_1, if_neg (by omega), (t2 24 L (by unfold Fq; omega)).1]
          have c25 : ∀ j, j ≠ n → c1.1 25 L j = σc.1 25 L j := fun j hj => by
            rw [← hc1, uI_1, if_neg (by omega), uI_1, if_neg (by omega), uI_1, if_neg (by omega), (t2 25 L (by unfold Fq; omega)).1]
          have c24n : c1.1 24 L n = b2i kk := by rw [← hc1, uI_1, if_neg (by omega), uI_1, if_neg (by omega), uI_1, if_pos ⟨rfl, rfl, rfl⟩]
          have c25n : c1.1 25 L n = nI B := by rw [← hc1, uI_1, if_neg (by omega), uI_1, if_pos ⟨rfl, rfl, rfl⟩]
          have RL : rLq R L (cl ++ [(kk, cm2)]) (B + cm2.length) := by
            refine rLq.snoc (rLq.mv hrL (by omega) (fun i hi => ?_) (fun i hi hpos => ?_) (fun j hj => ?_)) ?_ i1 (by omega) ?_ ?_ ?_
            · rw [r24, c24 i (by omega)]
            · rw [r25 i (by omega)]
              by_cases ei : i = n
              · rw [ei, c25n]; exact (hc25 (by omega)).symm
              · exact c25 i ei
            · have q1 := x4 j hj
              have q2 := t4 j hj
              rw [w _ _ _ (by omega) (by omega) (by omega), w _ _ _ (by omega) (by omega) (by omega), q1.1, q1.2, u _ _ _ (by omega) (by omega), u _ _ _ (by omega) (by omega)]
              exact q2
            · rw [hn0, r24]; exact c24n
            · rw [hn0, r25 n (by omega)]; exact c25n
            · rw [hn0]; exact R25
            · exact cdAt_cg x18 (fun j _ _ => ⟨w _ _ _ (by omega) (by omega) (by omega), w _ _ _ (by omega) (by omega) (by omega)⟩)
          -- the reference
          have m3e : ∀ k j, k ≠ 11 → ¬ (k = 76 ∧ j = 12 * L + n) → m3.1 k 0 j = σ3.1 k 0 j := fun k j q1 q2 => by rw [g2.2 _ _ _ (by omega), u76 _ _ (by omega)]
          have m3S : ∀ k j, k ≠ 11 → ¬ (k = 76 ∧ j = 12 * L + n) → ¬ ((k = 74 ∨ k = 75) ∧ j = 12 * L + n) → ¬ Fm L B k j → m3.1 k 0 j = σm.1 k 0 j := fun k j q1 q2 q3 q4 => by
            rw [m3e k j q1 q2, r4.1.2.1 k j q4, vS _ _ (by omega), v _ _ (by omega) q3]
          have RM : rMq m3 L (cl ++ [(kk, cm2)]) (B + cm2.length) := by
            refine rMq.snoc (rMq.mv hrM (by omega) (fun k i k1 k2 hi => ?_) (fun j hj => ?_)) ?_ i1 (by omega) ?_ ?_ ?_
            · exact m3S _ _ (by omega) (by omega) (by omega) (by unfold Fm; omega)
            · exact ⟨m3S _ _ (by omega) (by omega) (by omega) (by unfold Fm; omega), m3S _ _ (by omega) (by omega) (by omega) (by unfold Fm; omega)⟩
            · rw [hn0, m3e _ _ (by omega) (by omega), r4.1.2.1 _ _ (by unfold Fm; omega), vS _ _ (by omega), ← hmA, uI_1, if_neg (by omega), uI_1, if_pos ⟨rfl, rfl, rfl⟩]
            · rw [hn0, m3e _ _ (by omega) (by omega), r4.1.2.1 _ _ (by unfold Fm; omega), vS _ _ (by omega), ← hmA, uI_1, if_pos ⟨rfl, rfl, rfl⟩]
            · rw [hn0, g2.2 _ _ _ (by omega), uI_1, if_pos ⟨rfl, rfl, rfl⟩]
            · exact cdAt_cg r4.2.2.2 (fun j _ _ => ⟨m3e _ _ (by omega) (by omega), m3e _ _ (by omega) (by omega)⟩)
          have sJ := cgo_app s1 (cgo_app r2 (st2 R (by rw [hTT]; exact J)))
          have fin7 : m3.1 11 0 32 = 0 := by rw [g7, if_pos (Or.comm.mp hp)]
          by_cases h59 : pk b t q2 = 59
          · have hgo := g6 h59
            subst hgo
            have ne1 : pk b t q2 ≠ -1 := by rw [h59]; decide
            have htA2 : tkA b t q2 = q2 + 1 := (tk_sg h59 (by decide) (by decide) (by decide) (by decide) (by decide)).2.2
            have hlt2 := hA2.2.2 ne1
            refine ⟨_, m3, true, hk3, g1, Or.inl ⟨rfl, hn12, 1 + (k2 + 1), R, tkA b t q2, sg2, cnt2, N0 + n9 cm2, cm2, kk, by omega, by omega, sJ, ⟨⟨⟨x1.mv (w _ _ _ (by omega) (by omega) (by omega)) (funext fun j => w _ _ _ (by omega) (by omega) (by omega)), zsm.rf, rfl, fun _ _ => ⟨rfl, rfl⟩⟩, ⟨by rw [w _ _ _ (by omega) (by omega) (by omega)]; exact x5, by rw [w _ _ _ (by omega) (by omega) (by omega)]; exact x6, x7⟩, ⟨by rw [w _ _ _ (by omega) (by omega) (by omega)]; exact x8, x9, by rw [← hR, uI_1, if_pos ⟨rfl, rfl, rfl⟩, if_neg ne1], by rw [w _ _ _ (by omega) (by omega) (by omega)]; exact x11, by rw [w _ _ _ (by omega) (by omega) (by omega)]; exact x12⟩, ⟨by rw [w _ _ _ (by omega) (by omega) (by omega)]; exact x13, by rw [w _ _ _ (by omega) (by omega) (by omega)]; exact x14, by rw [w _ _ _ (by omega) (by omega) (by omega)]; exact x15, trivial⟩, ⟨by rw [w _ _ _ (by omega) (by omega) (by omega)]; exact x17, trivial⟩⟩, zR, ?_, fun _ => ?_, RL⟩, ⟨⟨?_, fr3⟩, ⟨fin7, by rw [(g5 rfl).2, htA2], hA2.2.1⟩, ⟨?_, ?_, ?_, ?_, ?_⟩, RM⟩, by omega, by omega, i3⟩⟩
            · rw [List.length_append, List.length_singleton, hn0]; exact R4
            · rw [List.length_append, List.length_singleton, hn0]; exact R25
            · exact r4.1.1.mv (by rw [g2.2 _ _ _ (by omega), u76 _ _ (by omega)]) (funext fun j => m3e _ _ (by omega) (by omega))
            · rw [g2.2 _ _ _ (by omega), u76 _ _ (by omega)]; exact r4.1.2.2.1
            · rw [g2.2 _ _ _ (by omega), u76 _ _ (by omega)]; exact r4.1.2.2.2.2
            · rw [g2.2 _ _ _ (by omega), u76 _ _ (by omega)]; exact r4.2.2.1.1
            · rw [g2.2 _ _ _ (by omega), u76 _ _ (by omega), r4.2.2.1.2.1]; exact nI_0
            · rw [g2.2 _ _ _ (by omega), u76 _ _ (by omega)]; exact r4.2.2.1.2.2.1
          · have h1 : pk b t q2 = -1 := hp.resolve_right h59
            have hgo : go = false := by
              cases go with
              | false => rfl
              | true => exact absurd (g5 rfl).1 h59
            subst hgo
            refine ⟨_, m3, false, hk3, g1, Or.inr (Or.inl ⟨rfl, hn12, 1 + (k2 + 1), R, kk, cm2, by omega, sJ, ?_, ?_, zR, by rw [hn0]; exact R4, RL, fr3, fin7, RM, by omega⟩)⟩
            · rw [← hR, uI_1, if_pos ⟨rfl, rfl, rfl⟩, if_pos h1]
            · rw [w _ _ _ (by omega) (by omega) (by omega)]; exact x5
        · -- something else stands there
          have h1 : ¬ pk b t q2 = -1 := fun c => hp (Or.inl c)
          have h59 : ¬ pk b t q2 = 59 := fun c => hp (Or.inr c)
          obtain ⟨f1, f2⟩ := flt_ok (c := 0) (q := q2) (by omega) (by decide) (by decide)
          have c0 : ∀ A : List Nat, (∀ x, x ∈ A → x ≠ 12) → ctn 12 A = 0 := fun A => by
            induction A with
            | nil => intro _; rfl
            | cons a A ih => intro q; rw [ctn, if_neg (q a (by simp)), ih (fun x hx => q x (by simp [hx]))]
          obtain ⟨y, y1, y2⟩ : ∃ σ', d_X5_take τ2 = some σ' ∧ FC c1 L σ' (flt 0 0 q2) := by
            rcases hT with h | ⟨-, h⟩
            · rw [h]
              exact T2.bad (by omega) k' hq2 r11 r12 (fun _ => c0 A2 (fun x hx => (r10 x hx).1)) (fun c => (c.elim (fun c => absurd c h1) (fun c => absurd c h59)))
            · exact h
          have hgo : go = false := by
            cases go with
            | false => rfl
            | true => exact absurd (g5 rfl).1 h59
          subst hgo
          exact ⟨_, m3, false, hk3, g1, Or.inr (Or.inr ⟨rfl, _, 1 + (k2 + 1), y, f1, f2, by omega, cgo_app s1 (cgo_app r2 (st2 y y1)), y2.2, zc1.tr (y2.1.mono (fun k i q => Fq_Fl q)), fr3, by rw [g7, if_neg (fun c => c.elim h59 h1)]⟩)⟩
      · obtain ⟨p, p1, p2⟩ := f6.2.2.2
        have u76 : ∀ k j, k ≠ 76 → (uI σ3 76 0 (12 * L + n) (σ3.1 11 0 35)).1 k 0 j = σ3.1 k 0 j := fun k j q1 => by rw [uI_1, if_neg (by omega)]
        obtain ⟨m3, go, g1, g2, g3, -⟩ := x11_goes (f := ff) (p := p) (σ := uI σ3 76 0 (12 * L + n) (σ3.1 11 0 35)) (f6.1.1.mv (u76 _ _ (by omega)) (funext fun j => u76 _ _ (by omega))) (by rw [u76 _ _ (by omega)]; exact p2) (by rw [u76 _ _ (by omega)]; exact f6.2.1) (by rw [if_neg f1]; omega)
        obtain ⟨g5, g6⟩ := g3 f1
        subst g5
        exact ⟨_, m3, false, hk3, g1, Or.inr (Or.inr ⟨rfl, ff, 1 + k5, σ5, f1, f2, by omega, cgo_app s1 f4, f5.2, zc1.tr (f5.1.mono (fun k i q => Fq_Fl q)), g2.fr (frS σ3 f6.1.2.1 _), g6⟩)⟩
  · have h4 : wrd b t q 4 = false := by
      cases h : wrd b t q 4 with
      | false => rfl
      | true => exact absurd (Or.inl h) hw
    have h5 : wrd b t q 5 = false := by
      cases h : wrd b t q 5 with
      | false => rfl
      | true => exact absurd (Or.inr h) hw
    rw [h4, h5, if_neg (by decide), if_neg (by decide)] at hcl htc
    obtain ⟨y, y1, y2⟩ := T.fail k 0
    obtain ⟨σm1, σm2, w1, w2, w3⟩ := L_word hz Hm0 hq z1 (c := 0) (by decide) (by decide) (st y (by rw [htc, y1])) y2 hpc
    exact ⟨σm1, σm2, false, by rw [hcl, w1], w2, Or.inr (Or.inr ⟨rfl, w3⟩)⟩
end
