/-! CALLS: law, the class's reader, signs and joints -/
theorem b2i_if (w : Bool) {α : Type} (x y : α) : (if b2i w = 0 then x else y) = if w = true then y else x := by cases w <;> rfl
/-- the operator that a sign is -/
def arO (op : Nat) : Prop := op = 2 ∨ op = 3 ∨ op = 13 ∨ op = 14 ∨ op = 15
def cmO (op : Nat) : Prop := op = 4 ∨ op = 5 ∨ op = 6 ∨ op = 7 ∨ op = 8
theorem x5_opof (σ : zH) (x : Int32) : d_X5_operatorOf σ x = some (σ, if x = 37 then 62 else if x = 42 then 60 else if x = 43 then 50 else if x = 45 then 51 else if x = 47 then 61 else if x = 60 then 40 else if x = 61 then 42 else if x = 62 then 44 else if x = 256 then 41 else if x = 257 then 43 else -1) := by
  unfold d_X5_operatorOf
  repeat' split
  all_goals rfl
section
variable {b : Nat → Int32} {t : Nat} {σ1 : zH} {L B : Nat} {σ : zH} {pc q : Nat} {ex sg : Int32} {cnt : Nat} {h h0 A : List Nat} {cc : List qop}
theorem qren_ar {op : Nat} (h : arO op) : ¬ qren op < 50 ∧ op ≠ 9 ∧ op ≠ 12 := by
  rcases h with rfl | rfl | rfl | rfl | rfl <;> decide
theorem qren_cm {op : Nat} (h : cmO op) : qren op < 50 ∧ ¬ qren op = -1 ∧ op ≠ 9 ∧ op ≠ 12 ∧ qren op / 10 = 4 := by
  rcases h with rfl | rfl | rfl | rfl | rfl <;> decide
/-- + - * / % -/
theorem CC.arith (H : CC b t σ1 L B σ pc ex sg cnt (A ++ h0) cc) (k : tkn b t q σ) (hK : tkK b t q = 3) {op : Nat} (ho : arO op) (hV : (if tkV b t q = 37 then (62 : Int32) else if tkV b t q = 42 then 60 else if tkV b t q = 43 then 50 else if tkV b t q = 45 then 51 else if tkV b t q = 47 then 61 else if tkV b t q = 60 then 40 else if tkV b t q = 61 then 42 else if tkV b t q = 62 then 44 else if tkV b t q = 256 then 41 else if tkV b t q = 257 then 43 else -1) = qren op)
    (rr : Int32) (hrr : qren op / 10 = rr) (h0r : ∀ x r, h0 = x :: r → qren x / 10 < rr) (hb : B + cc.length + A.length ≤ 400) (hh : (A ++ h0).length < 400) (hA : ∀ x, x ∈ A → x ≠ 12 ∧ 1 < x ∧ ¬ qren x / 10 < rr) :
    ∃ σ', d_X5_takeOperator σ = some σ' ∧ CC b t σ1 L B σ' pc 2 sg cnt (op :: h0) (cc ++ ops A) := by
  obtain ⟨o1, o2, o3⟩ := qren_ar ho
  unfold d_X5_takeOperator j_X5_takeOperator_25
  rw [k.2.1, hK, if_pos rfl, x5_opof, k.2.2.1, hV]
  simp only [Option.bind_some]
  obtain ⟨σ2, e2, H2, s2⟩ := H.release hrr h0r hb (by omega) hA
  obtain ⟨σ3, e3, H3, s3⟩ := H2.hold (x := op) (by rw [List.length_append] at hh; omega) o2 o3 rfl
  rw [if_neg o1, e2]
  simp only [Option.bind_some]
  rw [e3]
  exact ⟨_, rfl, H3.u2 2⟩
/-- < <= = >= > where none was met -/
theorem CC.cmp (H : CC b t σ1 L B σ pc ex 0 cnt (A ++ h0) cc) (k : tkn b t q σ) (hK : tkK b t q = 3) {op : Nat} (ho : cmO op) (hV : (if tkV b t q = 37 then (62 : Int32) else if tkV b t q = 42 then 60 else if tkV b t q = 43 then 50 else if tkV b t q = 45 then 51 else if tkV b t q = 47 then 61 else if tkV b t q = 60 then 40 else if tkV b t q = 61 then 42 else if tkV b t q = 62 then 44 else if tkV b t q = 256 then 41 else if tkV b t q = 257 then 43 else -1) = qren op)
    (h0r : ∀ x r, h0 = x :: r → qren x / 10 < 4) (hb : B + cc.length + A.length ≤ 400) (hh : (A ++ h0).length < 400) (hA : ∀ x, x ∈ A → x ≠ 12 ∧ 1 < x ∧ ¬ qren x / 10 < 4) (hc : cnt ≤ 60) :
    (cnt < 60 → ∃ σ', d_X5_takeOperator σ = some σ' ∧ CC b t σ1 L B σ' pc 2 1 (cnt + 1) (op :: h0) (cc ++ ops A)) ∧ (cnt = 60 → ∃ σ', d_X5_takeOperator σ = some σ' ∧ FC σ1 L σ' (flt 0 3 q)) := by
  obtain ⟨o1, o2, o3, o4, o5⟩ := qren_cm ho
  obtain ⟨σ2, e2, H2, k2, s2⟩ := H.many k hc
  unfold d_X5_takeOperator j_X5_takeOperator_25 j_X5_takeOperator_69
  rw [k.2.1, hK, if_pos rfl, x5_opof, k.2.2.1, hV]
  simp only [Option.bind_some]
  rw [if_pos o1, if_neg o2, if_neg o2, if_pos (show σ.1 5 0 3 = 0 from H.2.2.1.2.2.2.1), e2]
  simp only [Option.bind_some]
  refine ⟨fun hc => ?_, fun hc => ?_⟩
  · rw [if_neg (show ¬ cnt = 60 by omega), if_pos rfl]
    obtain ⟨σ3, e3, H3, s3⟩ := H2.release o5 h0r hb (by omega) hA
    obtain ⟨σ4, e4, H4, s4⟩ := H3.hold (x := op) (by rw [List.length_append] at hh; omega) o3 o4 rfl
    rw [e3]
    simp only [Option.bind_some]
    rw [e4]
    exact ⟨_, rfl, (H4.u3 1).u2 2⟩
  · rw [if_pos hc, if_neg i10]
    obtain ⟨σ3, g1, g2⟩ := H2.fail k2 3
    rw [g1]
    exact ⟨_, rfl, g2⟩
/-- a sign that can't stand here -/
theorem CC.cmp2 (H : CC b t σ1 L B σ pc ex 1 cnt h cc) (k : tkn b t q σ) (hK : tkK b t q = 3) {op : Nat} (ho : cmO op) (hV : (if tkV b t q = 37 then (62 : Int32) else if tkV b t q = 42 then 60 else if tkV b t q = 43 then 50 else if tkV b t q = 45 then 51 else if tkV b t q = 47 then 61 else if tkV b t q = 60 then 40 else if tkV b t q = 61 then 42 else if tkV b t q = 62 then 44 else if tkV b t q = 256 then 41 else if tkV b t q = 257 then 43 else -1) = qren op) :
    ∃ σ', d_X5_takeOperator σ = some σ' ∧ FC σ1 L σ' (flt 0 0 q) := by
  obtain ⟨o1, o2, o3, o4, o5⟩ := qren_cm ho
  unfold d_X5_takeOperator j_X5_takeOperator_25 j_X5_takeOperator_69 j_X5_takeOperator_81
  rw [k.2.1, hK, if_pos rfl, x5_opof, k.2.2.1, hV]
  simp only [Option.bind_some]
  rw [if_pos o1, if_neg o2, if_neg o2, H.2.2.1.2.2.2.1, if_neg i10]
  obtain ⟨σ3, g1, g2⟩ := H.fail k 0
  rw [g1]
  exact ⟨_, rfl, g2⟩
/-- no operator at q -/
def noO (b : Nat → Int32) (t q : Nat) : Prop := tkK b t q = 3 → (if tkV b t q = 37 then (62 : Int32) else if tkV b t q = 42 then 60 else if tkV b t q = 43 then 50 else if tkV b t q = 45 then 51 else if tkV b t q = 47 then 61 else if tkV b t q = 60 then 40 else if tkV b t q = 61 then 42 else if tkV b t q = 62 then 44 else if tkV b t q = 256 then 41 else if tkV b t q = 257 then 43 else -1) = -1
theorem CC.none0 (H : CC b t σ1 L B σ pc ex 0 cnt h cc) (k : tkn b t q σ) (hn : noO b t q) : ∃ σ', d_X5_takeOperator σ = some σ' ∧ FC σ1 L σ' (flt 0 0 q) := by
  have go : ∃ σ', j_X5_takeOperator_25 σ (-1 : Int32) = some σ' ∧ FC σ1 L σ' (flt 0 0 q) := by
    unfold j_X5_takeOperator_25 j_X5_takeOperator_69 j_X5_takeOperator_81
    obtain ⟨σ3, g1, g2⟩ := H.fail k 0
    rw [if_pos (by decide), if_pos rfl, if_pos (show σ.1 5 0 3 = 0 from H.2.2.1.2.2.2.1), if_pos rfl, g1]
    exact ⟨_, rfl, g2⟩
  unfold d_X5_takeOperator
  rw [k.2.1]
  by_cases hK : tkK b t q = 3
  · rw [if_pos hK, x5_opof, k.2.2.1, hn hK]
    exact go
  · rw [if_neg hK]
    exact go
theorem CC.none1 (H : CC b t σ1 L B σ pc ex 1 cnt h cc) (k : tkn b t q σ) (hn : noO b t q) : d_X5_takeOperator σ = d_X5_takeJoint σ := by
  have go : j_X5_takeOperator_25 σ (-1 : Int32) = d_X5_takeJoint σ := by
    unfold j_X5_takeOperator_25
    rw [if_pos (by decide), if_pos rfl, H.2.2.1.2.2.2.1, if_neg i10]
    cases d_X5_takeJoint σ <;> rfl
  unfold d_X5_takeOperator
  rw [k.2.1]
  by_cases hK : tkK b t q = 3
  · rw [if_pos hK, x5_opof, k.2.2.1, hn hK]
    exact go
  · rw [if_neg hK]
    exact go
/-- and, or -/
theorem CC.joint (H : CC b t σ1 L B σ pc ex sg cnt (A ++ h0) cc) (k : tkn b t q σ) (hq : q ≤ t) (isA : Bool) (hw : wrd b t q 17 = isA) (ho : isA = false → wrd b t q 18 = true) (rr : Int32) (hrr : rr = if isA then 2 else 1) (h0r : ∀ x r, h0 = x :: r → qren x / 10 < rr) (hb : B + cc.length + A.length ≤ 400) (hh : (A ++ h0).length < 400) (hA : ∀ x, x ∈ A → x ≠ 12 ∧ 1 < x ∧ ¬ qren x / 10 < rr) :
    ∃ σ', d_X5_takeJoint σ = some σ' ∧ CC b t σ1 L B σ' pc 1 sg cnt ((if isA then 10 else 11) :: h0) (cc ++ ops A) := by
  have hK : tkK b t q = 2 := by
    cases isA with
    | true => exact wrd_K (e := 17) (by omega) hw
    | false => exact wrd_K (e := 18) (by omega) (ho rfl)
  unfold d_X5_takeJoint j_X5_takeJoint_15
  rw [k.2.1, hK, if_neg (show ¬ (2 : Int32) = 0 by decide), x7_isWord H.1.1 k hq 17 (by omega)]
  simp only [Option.bind_some]
  rw [hw, b2i_if]
  have h400 : h0.length < 400 := by rw [List.length_append] at hh; omega
  cases isA with
  | true =>
    rw [if_pos rfl]
    obtain ⟨σ2, e2, H2, s2⟩ := H.release (op := 20) (rr := rr) (by rw [hrr]; decide) h0r hb (by omega) hA
    obtain ⟨σ3, e3, H3, s3⟩ := H2.hold (x := 10) h400 (by decide) (by decide) (v := 20) rfl
    rw [e2]
    simp only [Option.bind_some]
    rw [e3]
    exact ⟨_, rfl, H3.u2 1⟩
  | false =>
    rw [if_neg (by decide), x7_isWord H.1.1 k hq 18 (by omega)]
    simp only [Option.bind_some]
    rw [ho rfl, b2i_if, if_pos rfl]
    obtain ⟨σ2, e2, H2, s2⟩ := H.release (op := 10) (rr := rr) (by rw [hrr]; decide) h0r hb (by omega) hA
    obtain ⟨σ3, e3, H3, s3⟩ := H2.hold (x := 11) h400 (by decide) (by decide) (v := 10) rfl
    rw [e2]
    simp only [Option.bind_some]
    rw [e3]
    exact ⟨_, rfl, H3.u2 1⟩
/-- what is left of a joint where no word stands -/
theorem CC.jrest (H : CC b t σ1 L B σ pc ex sg cnt h cc) (hh : h.length ≤ 400) (k : tkn b t q σ) (hq : q ≤ t) (h17 : wrd b t q 17 = false) (h18 : wrd b t q 18 = false) : d_X5_takeJoint σ = if pk b t q = 93 ∧ ctn 12 h ≠ 0 then (d_X5_release σ (10 : Int32)).bind fun σ4 => (d_X5_closeBracket σ4).bind fun σ5 => some (uI σ5 5 0 2 (4 : Int32)) else if (pk b t q = -1 ∨ pk b t q = 59) ∧ ctn 12 h = 0 then (d_X5_release σ (10 : Int32)).bind fun σ1 => ix (σ1.1 5 0 1) 6 fun j2 => (d_X4_closeClause σ1 j2).bind fun σ3 => some (uI σ3 5 0 2 (if pk b t q = -1 then 5 else 0)) else (d_X7_fail σ (0 : Int32)).bind fun s => some s := by
  have a93 := x7_isSign H.1.1 93 k
  have a59 := x7_isSign H.1.1 59 k
  rw [tk_is (c := 93) (by decide) (by decide) (by decide) (by decide) (by decide) (by decide) (by decide)] at a93
  rw [tk_is (c := 59) (by decide) (by decide) (by decide) (by decide) (by decide) (by decide) (by decide)] at a59
  have d2 : σ.1 5 0 7 = nI (ctn 12 h) := H.2.2.2.1.2.1
  have hle : ctn 12 h < 2 ^ 31 := by
    have := ctn_le 12 h
    omega
  have n0 : (nI (ctn 12 h) = 0) = (ctn 12 h = 0) := by
    apply propext
    constructor
    · intro e
      rw [← nI_0] at e
      exact (nI_eq hle (by omega)).mp e
    · intro e; rw [e, nI_0]
  have n1 : ((0 : Int32) < nI (ctn 12 h)) = (ctn 12 h ≠ 0) := by
    apply propext
    constructor
    · intro e c
      rw [c, nI_0] at e
      exact absurd e (by decide)
    · intro e
      exact nI_lt (a := 0) (by omega) hle
  unfold d_X5_takeJoint j_X5_takeJoint_15 j_X5_takeJoint_117 j_X5_takeJoint_133 j_X5_takeJoint_163 j_X5_takeJoint_169
  rw [k.2.1]
  simp only [x7_isWord H.1.1 k hq 17 (by omega), x7_isWord H.1.1 k hq 18 (by omega), h17, h18, Option.bind_some, b2i_if, a93, a59, tk_end, d2, n0, n1, zlet]
  by_cases e1 : pk b t q = -1
  · simp [e1]
  · by_cases e2 : pk b t q = 93
    · by_cases e3 : ctn 12 h = 0
      · simp [e1, e2, e3]
      · simp [e1, e2, e3]
    · by_cases e4 : pk b t q = 59
      · by_cases e3 : ctn 12 h = 0
        · simp [e1, e2, e3, e4]
        · simp [e1, e2, e3, e4]
      · simp [e1, e2, e4]
/-- ] -/
theorem CC.shut (H : CC b t σ1 L B σ pc ex sg cnt (A ++ 12 :: h0) cc) (k : tkn b t q σ) (hq : q ≤ t) (hp : pk b t q = 93) (hb : B + cc.length + A.length ≤ 400) (hh : (A ++ 12 :: h0).length ≤ 400) (hA : ∀ x, x ∈ A → x ≠ 12 ∧ 1 < x ∧ ¬ qren x / 10 < 1) :
    ∃ σ', d_X5_takeJoint σ = some σ' ∧ CC b t σ1 L B σ' pc 4 sg cnt h0 (cc ++ ops A) := by
  have hW : isW (pk b t q) = false := by rw [hp]; decide
  have w : ∀ e, e < 36 → wrd b t q e = false := fun e he => by
    cases h : wrd b t q e with
    | false => rfl
    | true => rw [wrd_W he h] at hW; cases hW
  rw [H.jrest hh k hq (w 17 (by omega)) (w 18 (by omega)), if_pos ⟨hp, by rw [ctn_app, ctn, if_pos rfl]; omega⟩]
  obtain ⟨σ2, e2, H2, s2⟩ := H.release (op := 10) (rr := 1) (by decide) (fun x r e => by cases e; decide) hb hh hA
  rw [e2]
  simp only [Option.bind_some]
  unfold d_X5_closeBracket
  have H20 := H2
  obtain ⟨-, -, ⟨c1, c2, c3, c4, c5⟩, ⟨d1, d2, d3, d4⟩, -⟩ := H2
  simp only [zlet, Option.bind_some]
  rw [List.length_append, List.length_cons] at hh
  have e6 : zmx (0 : Int32) ((uI σ2 5 0 7 (σ2.1 5 0 7 - 1)).1 5 0 6 - 1) = nI h0.length := by
    rw [uI_1, if_neg (by omega), d1, List.length_cons, nI_pred]
    unfold zmx
    by_cases e : h0.length = 0
    · rw [e, nI_0]; decide
    · rw [if_pos (show (0 : Int32) < nI h0.length from nI_lt (a := 0) (by omega) (by omega))]
  rw [e6]
  refine ⟨_, rfl, H20.m5 rfl (fun k i j q1 q2 => by rw [uI_1, if_neg (by omega), uI_1, if_neg (by omega), uI_1, if_neg (by omega)]) (by simp [uI_1]) (by simp [uI_1]) (by simp [uI_1, c4]) (by simp [uI_1, c5]) (by simp [uI_1]) ?_ (by simp [uI_1, d3, ctn]) (hAt_cg d4.2 (fun j hj => by rw [uI_1, if_neg (by omega), uI_1, if_neg (by omega), uI_1, if_neg (by omega)]))⟩
  have : (uI (uI (uI σ2 5 0 7 (σ2.1 5 0 7 - 1)) 5 0 6 (nI h0.length)) 5 0 2 4).1 5 0 7 = σ2.1 5 0 7 - 1 := by simp [uI_1]
  rw [this, d2, ctn, if_pos rfl, Nat.add_comm, nI_pred]
/-- the clause ends -/
theorem CC.done (H : CC b t σ1 L B σ pc ex sg cnt A cc) (k : tkn b t q σ) (hq : q ≤ t) (hp : pk b t q = -1 ∨ pk b t q = 59) (hb : B + cc.length + A.length ≤ 400) (hh : A.length ≤ 400) (hA : ∀ x, x ∈ A → x ≠ 12 ∧ 1 < x ∧ ¬ qren x / 10 < 1) {n : Nat} (hn : n < 12) (h4 : σ1.1 4 L 0 = nI n) :
    ∃ τ, CC b t σ1 L B τ pc ex sg cnt [] (cc ++ ops A) ∧ d_X5_takeJoint σ = some (uI (uI (uI τ 4 L 0 (nI (n + 1))) 25 L (n + 1) (nI (B + (cc ++ ops A).length))) 5 0 2 (if pk b t q = -1 then 5 else 0)) := by
  have hW : isW (pk b t q) = false := by rcases hp with hp | hp <;> rw [hp] <;> decide
  have w : ∀ e, e < 36 → wrd b t q e = false := fun e he => by
    cases h : wrd b t q e with
    | false => rfl
    | true => rw [wrd_W he h] at hW; cases hW
  have c0 : ∀ A : List Nat, (∀ x, x ∈ A → x ≠ 12) → ctn 12 A = 0 := fun A => by
    induction A with
    | nil => intro _; rfl
    | cons a A ih => intro q; rw [ctn, if_neg (q a (by simp)), ih (fun x hx => q x (by simp [hx]))]
  have hc : ctn 12 A = 0 := c0 A (fun x hx => (hA x hx).1)
  rw [H.jrest hh k hq (w 17 (by omega)) (w 18 (by omega)), if_neg (fun q => q.2 hc), if_pos ⟨hp, hc⟩]
  rw [← List.append_nil A] at H hh
  obtain ⟨σ2, e2, H2, s2⟩ := H.release (op := 10) (rr := 1) (by decide) (fun x r e => by cases e) hb hh hA
  rw [e2]
  simp only [Option.bind_some]
  rw [H2.2.2.1.1, ix_nI H2.2.2.1.2.1 (by omega)]
  unfold d_X4_closeClause
  rw [H2.1.2.2.1, h4, if_pos (show nI n < (12 : Int32) from nI_lt (b := 12) hn (by omega))]
  simp only [zlet, nI_1]
  rw [show (uI σ2 4 L 0 (nI (n + 1))).1 4 L 0 = nI (n + 1) by simp [uI_1], ix_nI (by omega) (by omega), show (uI σ2 4 L 0 (nI (n + 1))).1 4 L 3 = nI (B + (cc ++ ops A).length) by rw [uI_1, if_neg (by omega)]; exact H2.2.2.2.2.1]
  exact ⟨σ2, H2, rfl⟩
theorem CC.bad (H : CC b t σ1 L B σ pc ex sg cnt h cc) (hh : h.length ≤ 400) (k : tkn b t q σ) (hq : q ≤ t) (h17 : wrd b t q 17 = false) (h18 : wrd b t q 18 = false) (h1 : pk b t q = 93 → ctn 12 h = 0) (h2 : pk b t q = -1 ∨ pk b t q = 59 → ctn 12 h ≠ 0) : ∃ σ', d_X5_takeJoint σ = some σ' ∧ FC σ1 L σ' (flt 0 0 q) := by
  rw [H.jrest hh k hq h17 h18, if_neg (fun q => q.2 (h1 q.1)), if_neg (fun q => h2 q.1 q.2)]
  obtain ⟨σ3, g1, g2⟩ := H.fail k 0
  rw [g1]
  exact ⟨_, rfl, g2⟩
end
