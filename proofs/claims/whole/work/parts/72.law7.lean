/-! CALLS: law, TERMS and SUMS on both sides -/
def sgc (op : Nat) : Int32 := if op = 13 then 42 else if op = 14 then 47 else if op = 15 then 37 else if op = 2 then 43 else 45
def opc (x : Int32) : Int32 := if x = 37 then (62 : Int32) else if x = 42 then 60 else if x = 43 then 50 else if x = 45 then 51 else if x = 47 then 61 else if x = 60 then 40 else if x = 61 then 42 else if x = 62 then 44 else if x = 256 then 41 else if x = 257 then 43 else -1
theorem sgc_ok {op : Nat} (ho : arO op) : sgc op ≠ -1 ∧ isD (sgc op) = false ∧ isW (sgc op) = false ∧ sgc op ≠ 60 ∧ sgc op ≠ 62 ∧ opc (sgc op) = qren op := by
  rcases ho with rfl | rfl | rfl | rfl | rfl <;> decide
def tmO (op : Nat) : Prop := op = 13 ∨ op = 14 ∨ op = 15
theorem tmO.ar {op : Nat} (h : tmO op) : arO op := by unfold tmO at h; unfold arO; omega
theorem rk_tm {op : Nat} (h : tmO op) : op ≠ 12 ∧ 1 < op ∧ ¬ qren op / 10 < 6 ∧ qren op / 10 = 6 := by
  rcases h with rfl | rfl | rfl <;> decide
theorem rk_ar {op : Nat} (h : arO op) : op ≠ 12 ∧ 1 < op ∧ op ≠ 9 ∧ ¬ qren op / 10 < 5 := by
  rcases h with rfl | rfl | rfl | rfl | rfl <;> decide
section
variable {b : Nat → Int32} {t : Nat} {c1 m1 : zH} {L B c0 N0 : Nat} {σc σm : zH} {pc pm : Nat} {ex sg : Int32} {cnt : Nat} {A h0 h g : List Nat} {cc cm : List qop} {ts : List Bool}
theorem PT.at (P : PT b t c1 m1 L B c0 N0 σc σm pc pm ex sg cnt A h0 g cc cm ts) (hp : en isB b t pm = pm) : en isB b t pc = pm ∧ pc ≤ pm ∧ pm ≤ t ∧ t ≤ 400 := by
  obtain ⟨H, M, e1, e2, I, hl⟩ := P
  have := (en_spec isB_m1 b t pc).1
  exact ⟨by rw [e2, hp], by omega, M.2.1.2.2, H.1.1.1⟩
/-- + - * / % on both sides -/
theorem AR_step (P : PT b t c1 m1 L B c0 N0 σc σm pc pm 3 sg cnt A h0 g cc cm ts) (hp : en isB b t pm = pm) {op : Nat} (ho : arO op) (hc : pk b t pm = sgc op) (rr : Int32) (hrr : qren op / 10 = rr) (h0r : ∀ x r, h0 = x :: r → qren x / 10 < rr) (hA : ∀ x, x ∈ A → x ≠ 12 ∧ 1 < x ∧ ¬ qren x / 10 < rr) :
    ∃ σc', cgo 1 σc σc' ∧ PT b t c1 m1 L B c0 N0 σc' (uI σm 11 0 31 (nI (pm + 1))) (pm + 1) (pm + 1) 2 sg cnt [] (op :: h0) g cm cm ts ∧ pc < pm + 1 ∧ pm + 1 ≤ t := by
  obtain ⟨p1, p2, p3, p4⟩ := P.at hp
  obtain ⟨H, M, e1, e2, I, hl⟩ := P
  have hl2 := I.len
  obtain ⟨a1, a2, a3, a4, a5, a6⟩ := sgc_ok ho
  obtain ⟨k1, k2, k3⟩ := tk_sg hc a1 a2 a3 a4 a5
  have hlt : pm < t := by
    by_cases q : pm < t
    · exact q
    · rw [pkb_end (by omega)] at hc
      exact absurd hc.symm a1
  obtain ⟨τ, n1, k, hq, T⟩ := H.next
  rw [p1] at k T
  rw [k3] at T
  have hcm : cm.length = cc.length + A.length := by rw [e1, List.length_append]; simp [ops]
  obtain ⟨σc', s1, s2⟩ := T.arith k k1 ho (by rw [k2]; exact a6) rr hrr h0r (by omega) (by omega) hA
  rw [← e1] at s2
  refine ⟨σc', cgo_1 ⟨by rw [H.2.2.1.2.2.1]; decide, H.2.1.1, τ, n1, ?_⟩, ⟨s2, M.u31 (by omega), by simp [ops], rfl, I.up (by omega) (by omega), ?_⟩, by omega, by omega⟩
  · unfold d_X5_take
    rw [T.2.2.1.2.2.1, if_neg (by decide), if_neg (by decide), if_neg (by decide), if_pos rfl, bsome]; exact s1
  · simp only [List.nil_append, List.length_cons, List.length_append] at hl ⊢
    omega
/-- what a procedure of the reference comes to -/
def RS (b : Nat → Int32) (t : Nat) (c1 m1 : zH) (L B c0 N0 : Nat) (σc : zH) (pc : Nat) (sg : Int32) (h0 g : List Nat) (ts : List Bool) (Q : Nat → Prop) (N : Int32 → Prop) (σm' : zH) : Prop :=
  (∃ k σc' pc' pm' cnt' A' cc' cm', k + pc ≤ pc' ∧ cgo k σc σc' ∧ PT b t c1 m1 L B c0 N0 σc' σm' pc' pm' 3 sg cnt' A' h0 g cc' cm' ts ∧ en isB b t pm' = pm' ∧ (∀ x, x ∈ A' → Q x) ∧ N (pk b t pm')) ∨ FT b t c1 m1 L B t pc σc σm'
theorem RS.pre {k : Nat} {σc' σm' : zH} {pc' : Nat} {Q : Nat → Prop} {N : Int32 → Prop} (hs : cgo k σc σc') (hk : k + pc ≤ pc') (h : RS b t c1 m1 L B c0 N0 σc' pc' sg h0 g ts Q N σm') : RS b t c1 m1 L B c0 N0 σc pc sg h0 g ts Q N σm' := by
  rcases h with ⟨k2, σ2, p2, pm2, n2, A2, cc2, cm2, a1, a2, a3⟩ | h
  · exact Or.inl ⟨k + k2, σ2, p2, pm2, n2, A2, cc2, cm2, by omega, cgo_app hs a2, a3⟩
  · exact Or.inr (h.pre hs hk)
def N3 (c : Int32) : Prop := c ≠ 42 ∧ c ≠ 47 ∧ c ≠ 37
def N5 (c : Int32) : Prop := (c ≠ 42 ∧ c ≠ 47 ∧ c ≠ 37) ∧ c ≠ 43 ∧ c ≠ 45
theorem x11_tgo (M : MM b t m1 L B σm pm cnt g cm) {op : Nat} (ho : tmO op) (hc : pk b t pm = sgc op) (f : Nat) : k_X11_term_8 (f + 1) σm = j_X11_term_72 (k_X11_term_8 f) σm (nI op) := by
  have s := M.sign
  rw [hc] at s
  rw [k_X11_term_8, if_pos M.2.1.1]
  unfold j_X11_term_42
  rcases ho with rfl | rfl | rfl <;> simp [s, sgc, nI]
theorem x11_tstop (M : MM b t m1 L B σm pm cnt g cm) (hc : N3 (pk b t pm)) (f : Nat) : k_X11_term_8 (f + 1) σm = some σm := by
  have s := M.sign
  obtain ⟨n1, n2, n3⟩ := hc
  rw [k_X11_term_8, if_pos M.2.1.1, s]
  simp only [Option.bind_some]
  rw [if_neg n1, s]
  simp only [Option.bind_some]
  rw [if_neg n2, s]
  simp only [Option.bind_some]
  rw [if_neg n3]
theorem T_loop (h0r : ∀ x r, h0 = x :: r → qren x / 10 < 6) : ∀ d f σc σm pc pm cnt A cc cm, t - pm ≤ d → d < f → PT b t c1 m1 L B c0 N0 σc σm pc pm 3 sg cnt A h0 g cc cm (false :: ts) → en isB b t pm = pm → (∀ x, x ∈ A → tmO x) → ∃ σm', k_X11_term_8 f σm = some σm' ∧ RS b t c1 m1 L B c0 N0 σc pc sg h0 g (false :: ts) tmO N3 σm' := by
  intro d
  induction d with
  | zero =>
    intro f σc σm pc pm cnt A cc cm hd hf P hp hA
    obtain ⟨f, rfl⟩ : ∃ g, f = g + 1 := ⟨f - 1, by omega⟩
    have hend : pk b t pm = -1 := pkb_end (by have := P.2.1.2.1.2.2; omega)
    have hN : N3 (pk b t pm) := by rw [hend]; exact ⟨by decide, by decide, by decide⟩
    exact ⟨σm, x11_tstop P.2.1 hN f, Or.inl ⟨0, σc, pc, pm, cnt, A, cc, cm, by omega, rfl, P, hp, hA, hN⟩⟩
  | succ d ih =>
    intro f σc σm pc pm cnt A cc cm hd hf P hp hA
    obtain ⟨f, rfl⟩ : ∃ g, f = g + 1 := ⟨f - 1, by omega⟩
    by_cases hN : N3 (pk b t pm)
    · exact ⟨σm, x11_tstop P.2.1 hN f, Or.inl ⟨0, σc, pc, pm, cnt, A, cc, cm, by omega, rfl, P, hp, hA, hN⟩⟩
    · obtain ⟨op, ho, hc⟩ : ∃ op, tmO op ∧ pk b t pm = sgc op := by
        unfold N3 at hN
        by_cases q1 : pk b t pm = 42
        · exact ⟨13, Or.inl rfl, q1⟩
        by_cases q2 : pk b t pm = 47
        · exact ⟨14, Or.inr (Or.inl rfl), q2⟩
        by_cases q3 : pk b t pm = 37
        · exact ⟨15, Or.inr (Or.inr rfl), q3⟩
        exact absurd ⟨q1, q2, q3⟩ hN
      obtain ⟨r1, r2, r3, r4⟩ := rk_tm ho
      obtain ⟨σ2, s2, P2, p2, p3⟩ := AR_step P hp ho.ar hc 6 r4 h0r (fun x hx => ⟨(rk_tm (hA x hx)).1, (rk_tm (hA x hx)).2.1, (rk_tm (hA x hx)).2.2.1⟩)
      rw [x11_tgo P.2.1 ho hc f]
      unfold j_X11_term_72
      simp only [zlet]
      rw [P.2.1.2.1.2.1, nI_1]
      obtain ⟨σ3, e3, R3⟩ := V_both P2 (VR_2 _)
      rw [e3]
      simp only [Option.bind_some]
      rcases R3 with ⟨σ4, pc4, cc4, cm4, q1, s4, P4⟩ | F
      · have I4 := P4.2.2.2.2.1
        have l4 := I4.len
        obtain ⟨σ5, e5, M5⟩ := P4.2.1.entry (by omega) (x := nI op) (a := 0) op 0 rfl (fun _ => rfl)
        rw [e5]
        simp only [Option.bind_some]
        obtain ⟨σ6, e6, M6⟩ := M5.blanks
        rw [e6]
        simp only [Option.bind_some]
        have hen := (en_spec isB_m1 b t pc4)
        have hee : en isB b t (en isB b t pc4) = en isB b t pc4 := en_stop hen.2.2.2
        have ecm : cm4 = cc4 := by rw [P4.2.2.1]; simp [ops]
        have P6 : PT b t c1 m1 L B c0 N0 σ4 σ6 pc4 (en isB b t pc4) 3 sg (cnt + 1) [op] h0 g cc4 (cm4 ++ [(op, 0)]) (false :: ts) := by
          refine ⟨P4.1, M6, by rw [ecm]; rfl, hee.symm, I4.op r2 (by rcases ho with rfl | rfl | rfl <;> decide) (qty_ar ho.ar _), P4.2.2.2.2.2⟩
        obtain ⟨σ7, e7, R7⟩ := ih f σ4 σ6 pc4 (en isB b t pc4) (cnt + 1) [op] cc4 (cm4 ++ [(op, 0)]) (by have := hen.1; omega) (by omega) P6 hee (fun x hx => by rw [List.mem_singleton] at hx; rw [hx]; exact ho)
        exact ⟨σ7, e7, R7.pre (cgo_app s2 s4) (by omega)⟩
      · have F2 := F.pre s2 (show 1 + pc ≤ pm + 1 by omega)
        obtain ⟨ff, k5, σ5, f1, f2, f3, f4, f5, f6⟩ := F2
        rw [f6.entry]
        simp only [Option.bind_some]
        obtain ⟨σ6, e6, M6⟩ := f6.blanks (by have := f6.1.1.1; omega) (Nat.le_refl _)
        rw [e6]
        simp only [Option.bind_some]
        obtain ⟨f', rfl⟩ : ∃ g, f = g + 1 := ⟨f - 1, by omega⟩
        rw [k_X11_term_8, M6.2.1, if_neg M6.2.2.1]
        exact ⟨σ6, rfl, Or.inr ⟨ff, k5, σ5, f1, f2, f3, f4, f5, M6⟩⟩
theorem T_both {sg2 : Int32} (P : PT b t c1 m1 L B c0 N0 σc σm pc pm ex sg cnt [] h0 g cc cm ts) (R : VR b t c1 L B (en isB b t pc) ex sg sg2 cnt h0 cc) (h0r : ∀ x r, h0 = x :: r → qren x / 10 < 6) :
    ∃ σm', d_X11_term σm = some σm' ∧ RS b t c1 m1 L B c0 N0 σc pc sg2 h0 g (false :: ts) tmO N3 σm' := by
  have t400 := P.1.1.1.1
  obtain ⟨σ3, e3, R3⟩ := V_both P R
  unfold d_X11_term
  rw [e3]
  simp only [Option.bind_some]
  rcases R3 with ⟨σ4, pc4, cc4, cm4, q1, s4, P4⟩ | F
  · obtain ⟨σ6, e6, M6⟩ := P4.2.1.blanks
    rw [e6]
    simp only [Option.bind_some]
    have hen := (en_spec isB_m1 b t pc4)
    have hee : en isB b t (en isB b t pc4) = en isB b t pc4 := en_stop hen.2.2.2
    have P6 : PT b t c1 m1 L B c0 N0 σ4 σ6 pc4 (en isB b t pc4) 3 sg2 (cnt + 1) [] h0 g cc4 cm4 (false :: ts) := ⟨P4.1, M6, P4.2.2.1, hee.symm, P4.2.2.2.2⟩
    obtain ⟨σ7, e7, R7⟩ := T_loop h0r 400 zN σ4 σ6 pc4 (en isB b t pc4) (cnt + 1) [] cc4 cm4 (by omega) (by rw [zN_eq]; omega) P6 hee (fun x hx => by cases hx)
    exact ⟨σ7, e7, R7.pre s4 (by omega)⟩
  · obtain ⟨ff, k5, σ5, f1, f2, f3, f4, f5, f6⟩ := F
    obtain ⟨σ6, e6, M6⟩ := f6.blanks (by have := f6.1.1.1; omega) (Nat.le_refl _)
    rw [e6]
    simp only [Option.bind_some]
    rw [show zN = 4095 + 1 from zN_eq, k_X11_term_8, M6.2.1, if_neg M6.2.2.1]
    exact ⟨σ6, rfl, Or.inr ⟨ff, k5, σ5, f1, f2, f3, f4, f5, M6⟩⟩
def smO (op : Nat) : Prop := op = 2 ∨ op = 3
theorem smO.ar {op : Nat} (h : smO op) : arO op := by unfold smO at h; unfold arO; omega
theorem x11_sgo (M : MM b t m1 L B σm pm cnt g cm) {op : Nat} (ho : smO op) (hc : pk b t pm = sgc op) (f : Nat) : k_X11_sum_4 (f + 1) σm = j_X11_sum_43 (k_X11_sum_4 f) σm (nI op) := by
  have s := M.sign
  rw [hc] at s
  rw [k_X11_sum_4, if_pos M.2.1.1]
  unfold j_X11_sum_29
  rcases ho with rfl | rfl <;> simp [s, sgc, nI]
theorem x11_sstop (M : MM b t m1 L B σm pm cnt g cm) (h1 : pk b t pm ≠ 43) (h2 : pk b t pm ≠ 45) (f : Nat) : k_X11_sum_4 (f + 1) σm = some σm := by
  have s := M.sign
  rw [k_X11_sum_4, if_pos M.2.1.1, s]
  simp only [Option.bind_some]
  rw [if_neg h1, s]
  simp only [Option.bind_some]
  rw [if_neg h2]
theorem S_loop (h0r : ∀ x r, h0 = x :: r → qren x / 10 < 5) : ∀ d f σc σm pc pm cnt A cc cm, t - pm ≤ d → d < f → PT b t c1 m1 L B c0 N0 σc σm pc pm 3 sg cnt A h0 g cc cm (false :: ts) → en isB b t pm = pm → (∀ x, x ∈ A → arO x) → N3 (pk b t pm) → ∃ σm', k_X11_sum_4 f σm = some σm' ∧ RS b t c1 m1 L B c0 N0 σc pc sg h0 g (false :: ts) arO N5 σm' := by
  intro d
  induction d with
  | zero =>
    intro f σc σm pc pm cnt A cc cm hd hf P hp hA hN3
    obtain ⟨f, rfl⟩ : ∃ g, f = g + 1 := ⟨f - 1, by omega⟩
    have hend : pk b t pm = -1 := pkb_end (by have := P.2.1.2.1.2.2; omega)
    have hN : N5 (pk b t pm) := by rw [hend]; exact ⟨⟨by decide, by decide, by decide⟩, by decide, by decide⟩
    exact ⟨σm, x11_sstop P.2.1 hN.2.1 hN.2.2 f, Or.inl ⟨0, σc, pc, pm, cnt, A, cc, cm, by omega, rfl, P, hp, hA, hN⟩⟩
  | succ d ih =>
    intro f σc σm pc pm cnt A cc cm hd hf P hp hA hN3
    obtain ⟨f, rfl⟩ : ∃ g, f = g + 1 := ⟨f - 1, by omega⟩
    by_cases hN : N5 (pk b t pm)
    · exact ⟨σm, x11_sstop P.2.1 hN.2.1 hN.2.2 f, Or.inl ⟨0, σc, pc, pm, cnt, A, cc, cm, by omega, rfl, P, hp, hA, hN⟩⟩
    · obtain ⟨op, ho, hc⟩ : ∃ op, smO op ∧ pk b t pm = sgc op := by
        unfold N5 at hN
        by_cases q1 : pk b t pm = 43
        · exact ⟨2, Or.inl rfl, q1⟩
        by_cases q2 : pk b t pm = 45
        · exact ⟨3, Or.inr rfl, q2⟩
        exact absurd ⟨hN3, q1, q2⟩ hN
      have hr5 : qren op / 10 = 5 ∧ op ≠ 9 ∧ 1 < op := by rcases ho with rfl | rfl <;> decide
      obtain ⟨σ2, s2, P2, p2, p3⟩ := AR_step P hp ho.ar hc 5 hr5.1 h0r (fun x hx => ⟨(rk_ar (hA x hx)).1, (rk_ar (hA x hx)).2.1, (rk_ar (hA x hx)).2.2.2⟩)
      rw [x11_sgo P.2.1 ho hc f]
      unfold j_X11_sum_43
      simp only [zlet]
      rw [P.2.1.2.1.2.1, nI_1]
      obtain ⟨σ3, e3, R3⟩ := T_both P2 (VR_2 _) (fun x r e => by cases e; rw [hr5.1]; decide)
      rw [e3]
      simp only [Option.bind_some]
      rcases R3 with ⟨k4, σ4, pc4, pm4, cnt4, A4, cc4, cm4, q1, s4, P4, hp4, hA4, hN4⟩ | F
      · have I4 := P4.2.2.2.2.1
        have l4 := I4.len
        obtain ⟨σ5, e5, M5⟩ := P4.2.1.entry (by omega) (x := nI op) (a := 0) op 0 rfl (fun _ => rfl)
        rw [e5]
        simp only [Option.bind_some]
        have hpos := (en_spec isB_m1 b t pc4).1
        have hee := P4.at hp4
        have eA : A4 ++ op :: h0 = (A4 ++ [op]) ++ h0 := by simp
        have P6 : PT b t c1 m1 L B c0 N0 σ4 σ5 pc4 pm4 3 sg cnt4 (A4 ++ [op]) h0 g cc4 (cm4 ++ [(op, 0)]) (false :: ts) := by
          refine ⟨by rw [← eA]; exact P4.1, M5, by rw [P4.2.2.1, ops_app, List.append_assoc]; rfl, P4.2.2.2.1, I4.op hr5.2.2 hr5.2.1 (qty_ar ho.ar _), by rw [← eA]; exact P4.2.2.2.2.2⟩
        obtain ⟨σ7, e7, R7⟩ := ih f σ4 σ5 pc4 pm4 cnt4 (A4 ++ [op]) cc4 (cm4 ++ [(op, 0)]) (by omega) (by omega) P6 hp4 (fun x hx => by
          rw [List.mem_append, List.mem_singleton] at hx
          rcases hx with hx | rfl
          · exact (hA4 x hx).ar
          · exact ho.ar) hN4
        exact ⟨σ7, e7, R7.pre (cgo_app s2 s4) (by omega)⟩
      · have F2 := F.pre s2 (show 1 + pc ≤ pm + 1 by omega)
        obtain ⟨ff, k5, σ5, f1, f2, f3, f4, f5, f6⟩ := F2
        rw [f6.entry]
        simp only [Option.bind_some]
        obtain ⟨f', rfl⟩ : ∃ g, f = g + 1 := ⟨f - 1, by omega⟩
        rw [k_X11_sum_4, f6.2.1, if_neg f6.2.2.1]
        exact ⟨σ3, rfl, Or.inr ⟨ff, k5, σ5, f1, f2, f3, f4, f5, f6⟩⟩
theorem S_both {sg2 : Int32} (P : PT b t c1 m1 L B c0 N0 σc σm pc pm ex sg cnt [] h0 g cc cm ts) (R : VR b t c1 L B (en isB b t pc) ex sg sg2 cnt h0 cc) (h0r : ∀ x r, h0 = x :: r → qren x / 10 < 5) :
    ∃ σm', d_X11_sum σm = some σm' ∧ RS b t c1 m1 L B c0 N0 σc pc sg2 h0 g (false :: ts) arO N5 σm' := by
  have t400 := P.1.1.1.1
  obtain ⟨σ3, e3, R3⟩ := T_both P R (fun x r e => by
    have := h0r x r e
    rw [fa_lt, show (6 : Int32).toInt = 6 by decide]
    rw [fa_lt, show (5 : Int32).toInt = 5 by decide] at this
    omega)
  unfold d_X11_sum
  rw [e3]
  simp only [Option.bind_some]
  rcases R3 with ⟨k4, σ4, pc4, pm4, cnt4, A4, cc4, cm4, q1, s4, P4, hp4, hA4, hN4⟩ | F
  · obtain ⟨σ7, e7, R7⟩ := S_loop h0r 400 zN σ4 σ3 pc4 pm4 cnt4 A4 cc4 cm4 (by omega) (by rw [zN_eq]; omega) P4 hp4 (fun x hx => (hA4 x hx).ar) hN4
    exact ⟨σ7, e7, R7.pre s4 (by omega)⟩
  · obtain ⟨ff, k5, σ5, f1, f2, f3, f4, f5, f6⟩ := F
    rw [show zN = 4095 + 1 from zN_eq, k_X11_sum_4, f6.2.1, if_neg f6.2.2.1]
    exact ⟨σ3, rfl, Or.inr ⟨ff, k5, σ5, f1, f2, f3, f4, f5, f6⟩⟩
end
