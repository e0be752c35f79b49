/-! WHAT A QUARTER DOES, in numbers: the mathematics that class and reference are tied to -/
/-- what a quarter rests on: rows by company (0 men, 1 hall, 2 bed, 3 snore), tone and number of the bell of a quarter of the day, the duty, the feast's end, the law, how many companies -/
abbrev qE : Type := (Nat → Nat → Int32) × (Int32 → Int32) × (Int32 → Int32) × (Nat → Int32 → Int32) × Int32 × (Bool → (Nat → Int64) → Bool) × Nat
def qeR (E : qE) : Nat → Nat → Int32 := E.1
def qeT (E : qE) : Int32 → Int32 := E.2.1
def qeB (E : qE) : Int32 → Int32 := E.2.2.1
def qeU (E : qE) : Nat → Int32 → Int32 := E.2.2.2.1
def qeF (E : qE) : Int32 := E.2.2.2.2.1
def qeL (E : qE) : Bool → (Nat → Int64) → Bool := E.2.2.2.2.2.1
def qeN (E : qE) : Nat := E.2.2.2.2.2.2
/-- what a quarter changes: rows 0 asleep, 1 tired, 2 long, 3 got up, 4 why, 5 its time, 6 by what; row 7: 0 now, 1 x, 2 warm men -/
abbrev qD : Type := Nat → Nat → Int32
def dU (D : qD) (r i : Nat) (v : Int32) : qD := fun r' i' => if r' = r ∧ i' = i then v else D r' i'
def qrem (x : Int32) : Int32 := x - x / 96 * 96
def qmen (E : qE) (D : qD) : Int32 := qsum (fun i => if D 0 i = 0 then qeR E 0 i else 0) (qeN E)
def qdown (D : qD) (i : Nat) : Bool := !decide (D 0 i = 0)
def qup (D : qD) (i : Nat) : Bool := decide (D 0 i = 0)
def qval (E : qE) (D : qD) (c : Nat) (w : Nat) : Int64 := match w with
  | 0 => (qrem (D 7 0)).toInt64
  | 1 => (D 7 0 / 96).toInt64
  | 2 => (D 1 c).toInt64
  | 3 => (D 2 c).toInt64
  | 4 => (nI c).toInt64
  | 5 => (qeR E 0 c).toInt64
  | 6 => (qeR E 1 c).toInt64
  | 7 => (qmen E D).toInt64
  | 8 => (qeT E (qrem (D 7 0))).toInt64
  | _ => (qeR E 3 c).toInt64
def qtaken (E : qE) (D : qD) (c : Nat) : Bool := qany (fun o => decide (o ≠ c) && qdown D o && decide (qeR E 2 o = qeR E 2 c)) (qeN E)
def qwarm (E : qE) (D : qD) (c : Nat) : Bool := qany (fun o => decide (o ≠ c) && decide (qeR E 2 o = qeR E 2 c) && decide (D 7 0 - 4 < D 3 o)) (qeN E)
def qchg (D : qD) (c : Nat) (is why by_ : Int32) : qD := fun r i => if i = c then
    (match r with
    | 0 => is
    | 2 => 0
    | 3 => if is = 0 then D 7 0 else D 3 c
    | 4 => why
    | 5 => D 7 0
    | 6 => by_
    | _ => D r i) else D r i
def qlie1 (E : qE) (c : Nat) (D : qD) : qD :=
  if D 0 c = 0 ∧ qeU E c (qrem (D 7 0)) = -1 ∧ ¬ D 7 0 < qeF E ∧ qtaken E D c = false ∧ qeL E true (qval E D c) = true then
    qchg (dU D 7 2 (D 7 2 + (if qwarm E D c then qeR E 0 c else 0))) c 1 3 (qeB E (qrem (D 7 0)))
  else D
def qwake1 (E : qE) (c : Nat) (D : qD) : qD :=
  if qeU E c (qrem (D 7 0)) = -1 then
    if D 7 0 < qeF E then qchg D c 0 5 (-1)
    else if qeL E false (qval E D c) then qchg D c 0 6 (qeB E (qrem (D 7 0))) else D
  else qchg D c 0 4 (qeU E c (qrem (D 7 0)))
def qdraw (x : Int32) : Int32 := (x * 1103515245 + 12345) &&& 2147483647
/-- how many steps on the next one asleep in the hall is -/
def qnext (E : qE) (D : qD) (c : Nat) : Int32 := qfst (fun k => decide (0 < k) && qdown D ((c + k) % qeN E) && decide (qeR E 1 ((c + k) % qeN E) = qeR E 1 c)) (qeN E)
def qsnore1 (E : qE) (c : Nat) (D : qD) : qD :=
  if D 0 c = 0 then D
  else
    let x := qdraw (D 7 1)
    let D1 := dU D 7 1 x
    if x / 65536 - x / 65536 / 100 * 100 < qeR E 3 c then
      (if qnext E D c = -1 then D1 else qchg D1 ((c + (qnext E D c).toNatClampNeg) % qeN E) 0 7 (nI c))
    else D1
def qclamp (t : Int32) : Int32 := if t < 0 then 0 else if 999 < t then 999 else t
def qtire1 (c : Nat) (D : qD) : qD :=
  dU (dU D 1 c (qclamp (D 1 c + (if D 0 c = 0 then 1 else -2)))) 2 c (D 2 c + (if D 2 c < 999 then 1 else 0))
def qfor (f : Nat → qD → qD) : Nat → qD → qD
  | 0, D => D
  | n + 1, D => f n (qfor f n D)
def qq1 (E : qE) (D : qD) : qD := qfor (qlie1 E) (qeN E) D
def qq2 (E : qE) (D : qD) : qD := qfor (fun c D' => if D 0 c = 0 then D' else qwake1 E c D') (qeN E) (qq1 E D)
def qq3 (E : qE) (D : qD) : qD := qfor (qsnore1 E) (qeN E) (qq2 E D)
def qq4 (E : qE) (D : qD) : qD := qfor qtire1 (qeN E) (qq3 E D)
/-- a quarter -/
def qqu (E : qE) (D : qD) : qD := dU (qq4 E D) 7 0 (qq4 E D 7 0 + 1)
def qrun (E : qE) : Nat → qD → qD
  | 0, D => D
  | n + 1, D => qqu E (qrun E n D)
/-- the drum -/
def qdrum (E : qE) (D : qD) : qD := qfor (fun c D => if D 0 c = 0 then D else qchg D c 0 2 (-1)) (qeN E) D
/-- n quarters, the drum ahead of the one told -/
def qtr (E : qE) (at_ : Nat) : Nat → qD → qD
  | 0, D => D
  | k + 1, D => qqu E (if k = at_ then qdrum E (qtr E at_ k D) else qtr E at_ k D)
/-- what always holds -/
def qOK (E : qE) (D : qD) : Prop := (∀ i, i < qeN E → (D 0 i = 0 ∨ D 0 i = 1) ∧ 0 ≤ (D 1 i).toInt ∧ (D 1 i).toInt ≤ 999 ∧ 0 ≤ (D 2 i).toInt ∧ (D 2 i).toInt ≤ 999) ∧ 0 ≤ (D 7 1).toInt ∧ 0 ≤ (D 7 0).toInt ∧ qeN E ≤ 12
theorem dU_eq (D : qD) (r i : Nat) (v : Int32) : dU D r i v r i = v := by unfold dU; rw [if_pos ⟨rfl, rfl⟩]
theorem dU_ne (D : qD) {r i r' i' : Nat} (v : Int32) (h : ¬ (r' = r ∧ i' = i)) : dU D r i v r' i' = D r' i' := by unfold dU; rw [if_neg h]
/-- what stays outside of F -/
def zsm (F : Nat → Nat → Prop) (σ σ' : zH) : Prop := ∀ k i, ¬ F k i → σ'.1 k i = σ.1 k i ∧ σ'.2 k i = σ.2 k i
theorem zsm.rf {F : Nat → Nat → Prop} {σ : zH} : zsm F σ σ := fun _ _ _ => ⟨rfl, rfl⟩
theorem zsm.tr {F : Nat → Nat → Prop} {σ σ' τ : zH} (h : zsm F σ σ') (h2 : zsm F σ' τ) : zsm F σ τ := fun k i hf => ⟨(h2 k i hf).1.trans (h k i hf).1, (h2 k i hf).2.trans (h k i hf).2⟩
theorem zsm.mono {F G : Nat → Nat → Prop} {σ σ' : zH} (h : zsm F σ σ') (hg : ∀ k i, F k i → G k i) : zsm G σ σ' := fun k i hf => h k i (fun q => hf (hg k i q))
theorem uI_1 (σ : zH) (k i j : Nat) (x : Int32) (k' i' j' : Nat) : (uI σ k i j x).1 k' i' j' = if k' = k ∧ i' = i ∧ j' = j then x else σ.1 k' i' j' := rfl
theorem uI_2 (σ : zH) (k i j : Nat) (x : Int32) : (uI σ k i j x).2 = σ.2 := rfl
theorem uL_1 (σ : zH) (k i j : Nat) (x : Int64) : (uL σ k i j x).1 = σ.1 := rfl
theorem uL_2 (σ : zH) (k i j : Nat) (x : Int64) (k' i' j' : Nat) : (uL σ k i j x).2 k' i' j' = if k' = k ∧ i' = i ∧ j' = j then x else σ.2 k' i' j' := rfl
theorem zsm.uI {F : Nat → Nat → Prop} {σ σ' : zH} (h : zsm F σ σ') {k i : Nat} (hf : F k i) (j : Nat) (x : Int32) : zsm F σ (uI σ' k i j x) := fun k' i' hn => by
  refine ⟨funext fun j' => ?_, (h k' i' hn).2⟩
  rw [uI_1, if_neg (fun hc => hn (by rw [hc.1, hc.2.1]; exact hf)), (h k' i' hn).1]
theorem zsm.uL {F : Nat → Nat → Prop} {σ σ' : zH} (h : zsm F σ σ') {k i : Nat} (hf : F k i) (j : Nat) (x : Int64) : zsm F σ (uL σ' k i j x) := fun k' i' hn => by
  refine ⟨(h k' i' hn).1, funext fun j' => ?_⟩
  rw [uL_2, if_neg (fun hc => hn (by rw [hc.1, hc.2.1]; exact hf)), (h k' i' hn).2]
theorem zsm.cp {F : Nat → Nat → Prop} {σ σ' : zH} (h : zsm F σ σ') {k i k1 i1 : Nat} (hf : F k1 i1) (sp dp n : Nat) : zsm F σ (cpI σ' k i k1 i1 sp dp n) := fun k' i' hn => by
  refine ⟨funext fun j' => ?_, (h k' i' hn).2⟩
  show (if k' = k1 ∧ i' = i1 then _ else σ'.1 k' i' j') = _
  rw [if_neg (fun hc => hn (by rw [hc.1, hc.2]; exact hf)), (h k' i' hn).1]
