/-! LAWS: code for a stack, and what class and reference make of it -/
abbrev qop : Type := Nat × Int32
def qbop (op : Nat) (x y : Int64) : Int64 := match op with
  | 2 => x + y
  | 3 => x - y
  | 4 => if x < y then 1 else 0
  | 5 => if y < x then 0 else 1
  | 6 => if x = y then 1 else 0
  | 7 => if x < y then 0 else 1
  | 8 => if y < x then 1 else 0
  | 10 => x &&& y
  | 11 => x ||| y
  | 13 => x * y
  | 14 => if y = 0 then 0 else x / y
  | 15 => if y = 0 then 0 else x - x / y * y
  | _ => 0
def qev (v : Nat → Int64) : List qop → List Int64 → Option (List Int64)
  | [], st => some st
  | (op, a) :: t, st =>
    if op = 0 then qev v t (a.toInt64 :: st)
    else if op = 1 then qev v t (v a.toNatClampNeg :: st)
    else if op = 9 then (match st with
      | x :: r => qev v t ((1 - x) :: r)
      | _ => none)
    else (match st with
      | y :: x :: r => qev v t (qbop op x y :: r)
      | _ => none)
/-- a clause holds -/
def qcl (v : Nat → Int64) (code : List qop) : Bool := decide (qev v code [] = some [1])
def qlawp (cl : List (Bool × List qop)) (sl : Bool) (v : Nat → Int64) (i : Nat) : Bool := match cl[i]? with
  | some c => c.1 == sl && qcl v c.2
  | none => false
def qlaw (cl : List (Bool × List qop)) (sl : Bool) (v : Nat → Int64) : Bool := qany (qlawp cl sl v) cl.length
/-- types: true for a truth value -/
def qty : List qop → List Bool → Option (List Bool)
  | [], ts => some ts
  | (op, a) :: t, ts =>
    if op = 0 then qty t (false :: ts)
    else if op = 1 then (if 0 ≤ a.toInt ∧ a.toInt ≤ 9 then qty t (false :: ts) else none)
    else if op = 9 then (match ts with
      | true :: r => qty t (true :: r)
      | _ => none)
    else if op = 10 ∨ op = 11 then (match ts with
      | true :: true :: r => qty t (true :: r)
      | _ => none)
    else if 4 ≤ op ∧ op ≤ 8 then (match ts with
      | false :: false :: r => qty t (true :: r)
      | _ => none)
    else if op = 2 ∨ op = 3 ∨ op = 13 ∨ op = 14 ∨ op = 15 then (match ts with
      | false :: false :: r => qty t (false :: r)
      | _ => none)
    else none
def qps : List qop → Nat
  | [] => 0
  | q :: t => (if q.1 ≤ 1 then 1 else 0) + qps t
def tyOK : List Int64 → List Bool → Prop
  | [], [] => True
  | x :: s, t :: ts => (t = true → x = 0 ∨ x = 1) ∧ tyOK s ts
  | _, _ => False
def stAt (g : Nat → Int64) : List Int64 → Prop
  | [] => True
  | x :: s => g s.length = x ∧ stAt g s
theorem stAt_cong {g g' : Nat → Int64} : ∀ {s : List Int64}, stAt g s → (∀ j, j < s.length → g' j = g j) → stAt g' s
  | [], _, _ => trivial
  | x :: s, h, hj => ⟨by rw [hj _ (by simp)]; exact h.1, stAt_cong h.2 (fun j hl => hj j (by simp; omega))⟩
theorem tyOK_2 {s : List Int64} {a b : Bool} {ts : List Bool} (h : tyOK s (a :: b :: ts)) : ∃ y x r, s = y :: x :: r ∧ (a = true → y = 0 ∨ y = 1) ∧ (b = true → x = 0 ∨ x = 1) ∧ tyOK r ts := by
  match s, h with
  | y :: x :: r, h => exact ⟨y, x, r, rfl, h.1, h.2.1, h.2.2⟩
theorem tyOK_1 {s : List Int64} {a : Bool} {ts : List Bool} (h : tyOK s (a :: ts)) : ∃ y r, s = y :: r ∧ (a = true → y = 0 ∨ y = 1) ∧ tyOK r ts := by
  match s, h with
  | y :: r, h => exact ⟨y, r, rfl, h.1, h.2⟩
theorem tyOK_0 {s : List Int64} (h : tyOK s []) : s = [] := by
  match s, h with
  | [], h => rfl
/-- numbers of the class's operators -/
def qren (op : Nat) : Int32 := match op with
  | 0 => 70
  | 1 => 71
  | 2 => 50
  | 3 => 51
  | 4 => 40
  | 5 => 41
  | 6 => 42
  | 7 => 43
  | 8 => 44
  | 9 => 30
  | 10 => 20
  | 11 => 10
  | 13 => 60
  | 14 => 61
  | 15 => 62
  | _ => 0
def qbin (op : Nat) : Prop := op = 2 ∨ op = 3 ∨ op = 4 ∨ op = 5 ∨ op = 6 ∨ op = 7 ∨ op = 8 ∨ op = 10 ∨ op = 11 ∨ op = 13 ∨ op = 14 ∨ op = 15
theorem qbop_01 {op : Nat} (h : 4 ≤ op ∧ op ≤ 8) (x y : Int64) : qbop op x y = 0 ∨ qbop op x y = 1 := by
  have : op = 4 ∨ op = 5 ∨ op = 6 ∨ op = 7 ∨ op = 8 := by omega
  rcases this with rfl | rfl | rfl | rfl | rfl <;> (simp only [qbop]; split <;> simp)
theorem qbop_ao {op : Nat} (h : op = 10 ∨ op = 11) {x y : Int64} (hx : x = 0 ∨ x = 1) (hy : y = 0 ∨ y = 1) : qbop op x y = 0 ∨ qbop op x y = 1 := by
  rcases h with rfl | rfl <;> rcases hx with rfl | rfl <;> rcases hy with rfl | rfl <;> (unfold qbop; decide)
theorem x4_combine (σ : zH) {op : Nat} (h : qbin op) (x y : Int64) : d_X4_combine σ (qren op) x y = some (σ, qbop op x y) := by
  have h0 : (0 : Int64) = 0 := rfl
  rcases h with rfl | rfl | rfl | rfl | rfl | rfl | rfl | rfl | rfl | rfl | rfl | rfl <;> unfold d_X4_combine qren qbop <;> simp only [lg_cmp_lt, lg_cmp_gt, lg_cmp_eq] <;> simp
  all_goals (repeat' split) <;> simp_all [nzL]
theorem x11_both (σ : zH) {op : Nat} (h : qbin op) (x y : Int64) : d_X11_both σ (nI op) x y = some (σ, qbop op x y) := by
  rcases h with rfl | rfl | rfl | rfl | rfl | rfl | rfl | rfl | rfl | rfl | rfl | rfl <;> unfold d_X11_both qbop j_X11_both_123 j_X11_both_138 j_X11_both_153 j_X11_both_168 j_X11_both_183 d_X11_truth <;> simp only [lg_cmp_lt, lg_cmp_gt, lg_cmp_eq] <;> simp [nI]
  all_goals (repeat' split) <;> simp_all [nzL]
