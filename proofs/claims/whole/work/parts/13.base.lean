/-! NUMBERS AND BITS (rows fa_, fb_, b_, bt: from the kit's texts to paste); the calculus of the printed methods -/
theorem fa_lt (a b : Int32) : a < b ↔ a.toInt < b.toInt := Int32.lt_iff_toInt_lt
theorem fa_le (a b : Int32) : a ≤ b ↔ a.toInt ≤ b.toInt := Int32.le_iff_toInt_le
theorem fa_eq (a b : Int32) : a = b ↔ a.toInt = b.toInt := Int32.toInt_inj.symm
theorem fa_lt64 (a b : Int64) : a < b ↔ a.toInt < b.toInt := Int64.lt_iff_toInt_lt
theorem fa_le64 (a b : Int64) : a ≤ b ↔ a.toInt ≤ b.toInt := Int64.le_iff_toInt_le
theorem fa_eq64 (a b : Int64) : a = b ↔ a.toInt = b.toInt := Int64.toInt_inj.symm
theorem fa_wide_lt (a b : Int32) : a.toInt64 < b.toInt64 ↔ a < b := by rw [fa_lt64, fa_lt, Int32.toInt_toInt64, Int32.toInt_toInt64]
theorem fa_wide_le (a b : Int32) : a.toInt64 ≤ b.toInt64 ↔ a ≤ b := by rw [fa_le64, fa_le, Int32.toInt_toInt64, Int32.toInt_toInt64]
theorem fa_wide_eq (a b : Int32) : a.toInt64 = b.toInt64 ↔ a = b := by rw [fa_eq64, fa_eq, Int32.toInt_toInt64, Int32.toInt_toInt64]
theorem fa_of_nlt {a b : Int32} (h : ¬ a < b) : b ≤ a := by
  rw [fa_lt] at h
  rw [fa_le]
  omega
theorem fb_rng (x : Int32) : -2147483648 ≤ x.toInt ∧ x.toInt < 2147483648 := by
  have h1 := Int32.le_toInt x
  have h2 := Int32.toInt_lt x
  omega
theorem fb_bmod {z : Int} (h1 : -2147483648 ≤ z) (h2 : z < 2147483648) : z.bmod (2 ^ 32) = z := by
  rw [Int.bmod_eq_of_le (by omega) (by omega)]
theorem fb_addI {x y : Int32} (h1 : -2147483648 ≤ x.toInt + y.toInt) (h2 : x.toInt + y.toInt < 2147483648) : (x + y).toInt = x.toInt + y.toInt := by
  rw [Int32.toInt_add, fb_bmod h1 h2]
theorem fb_subI {x y : Int32} (h1 : -2147483648 ≤ x.toInt - y.toInt) (h2 : x.toInt - y.toInt < 2147483648) : (x - y).toInt = x.toInt - y.toInt := by
  rw [Int32.toInt_sub, fb_bmod h1 h2]
theorem fb_mulI {x y : Int32} (h1 : -2147483648 ≤ x.toInt * y.toInt) (h2 : x.toInt * y.toInt < 2147483648) : (x * y).toInt = x.toInt * y.toInt := by
  rw [Int32.toInt_mul, fb_bmod h1 h2]
theorem fb_ofI {z : Int} (h1 : -2147483648 ≤ z) (h2 : z < 2147483648) : (Int32.ofInt z).toInt = z := by
  rw [Int32.toInt_ofInt, fb_bmod h1 h2]
theorem fb_asI (x : Int32) : Int32.ofInt x.toInt = x := Int32.ofInt_toInt x
theorem fb_rngL (x : Int64) : -9223372036854775808 ≤ x.toInt ∧ x.toInt < 9223372036854775808 := by
  have h1 := Int64.le_toInt x
  have h2 := Int64.toInt_lt x
  omega
theorem fb_bmodL {z : Int} (h1 : -9223372036854775808 ≤ z) (h2 : z < 9223372036854775808) : z.bmod (2 ^ 64) = z := by
  rw [Int.bmod_eq_of_le (by omega) (by omega)]
theorem fb_addL {x y : Int64} (h1 : -9223372036854775808 ≤ x.toInt + y.toInt) (h2 : x.toInt + y.toInt < 9223372036854775808) : (x + y).toInt = x.toInt + y.toInt := by
  rw [Int64.toInt_add, fb_bmodL h1 h2]
theorem fb_subL {x y : Int64} (h1 : -9223372036854775808 ≤ x.toInt - y.toInt) (h2 : x.toInt - y.toInt < 9223372036854775808) : (x - y).toInt = x.toInt - y.toInt := by
  rw [Int64.toInt_sub, fb_bmodL h1 h2]
theorem fb_mulL {x y : Int64} (h1 : -9223372036854775808 ≤ x.toInt * y.toInt) (h2 : x.toInt * y.toInt < 9223372036854775808) : (x * y).toInt = x.toInt * y.toInt := by
  rw [Int64.toInt_mul, fb_bmodL h1 h2]
theorem fb_byte {x : Int32} (h1 : -128 ≤ x.toInt) (h2 : x.toInt < 128) : x.toInt8.toInt32 = x := by
  apply Int32.toInt_inj.1
  rw [Int8.toInt_toInt32, Int32.toInt_toInt8, Int.bmod_eq_of_le (by omega) (by omega)]
theorem fb_byte_rng (x : Int32) : -128 ≤ x.toInt8.toInt32.toInt ∧ x.toInt8.toInt32.toInt < 128 := by
  rw [Int8.toInt_toInt32]
  have h1 := Int8.le_toInt x.toInt8
  have h2 := Int8.toInt_lt x.toInt8
  omega
theorem fb_byte_twice (x : Int32) : x.toInt8.toInt32.toInt8.toInt32 = x.toInt8.toInt32 := fb_byte (fb_byte_rng x).1 (fb_byte_rng x).2
def bt (x : Int32) (i : Nat) : Bool := x.toBitVec.getLsbD i
theorem b_ext {x y : Int32} (h : ∀ i, i < 32 → bt x i = bt y i) : x = y := Int32.toBitVec_inj.mp (BitVec.eq_of_getLsbD_eq (fun i hi => h i hi))
theorem b_or (x y : Int32) (i : Nat) : bt (x ||| y) i = (bt x i || bt y i) := by unfold bt; rw [Int32.toBitVec_or, BitVec.getLsbD_or]
theorem b_and (x y : Int32) (i : Nat) : bt (x &&& y) i = (bt x i && bt y i) := by unfold bt; rw [Int32.toBitVec_and, BitVec.getLsbD_and]
theorem b_xor (x y : Int32) (i : Nat) : bt (x ^^^ y) i = (bt x i ^^ bt y i) := by unfold bt; rw [Int32.toBitVec_xor, BitVec.getLsbD_xor]
theorem b_big {x : Int32} {i : Nat} (h : 32 ≤ i) : bt x i = false := BitVec.getLsbD_of_ge _ _ h
theorem b_255 (i : Nat) : bt 255 i = decide (i < 8) := by
  rcases Nat.lt_or_ge i 32 with h | h
  · exact (by decide +kernel : ∀ i, i < 32 → bt 255 i = decide (i < 8)) i h
  · rw [b_big h, decide_eq_false (by omega)]
theorem b_m1 : ∀ i, i < 32 → bt (-1) i = true := by decide +kernel
theorem b_0 (i : Nat) : bt 0 i = false := BitVec.getLsbD_zero
theorem s_l : ∀ n, n < 32 → ((nI n &&& 31).toBitVec.smod 32).toNat = n := by decide +kernel
theorem b_shl (n : Nat) (hn : n < 32) (x : Int32) {i : Nat} (hi : i < 32) : bt (x <<< (nI n &&& 31)) i = (decide (n ≤ i) && bt x (i - n)) := by
  unfold bt
  rw [Int32.toBitVec_shiftLeft]
  show (x.toBitVec <<< ((nI n &&& 31).toBitVec.smod 32).toNat).getLsbD i = _
  rw [s_l n hn, BitVec.getLsbD_shiftLeft]
  rcases Nat.lt_or_ge i n with h | h
  · simp [h, Nat.not_le.mpr h]
  · simp [hi, h, Nat.not_lt.mpr h]
theorem b_sshr (n : Nat) (hn : n < 32) (x : Int32) {i : Nat} (hi : i < 32) : bt (x >>> (nI n &&& 31)) i = if n + i < 32 then bt x (n + i) else bt x 31 := by
  unfold bt
  rw [Int32.toBitVec_shiftRight]
  show (x.toBitVec.sshiftRight ((nI n &&& 31).toBitVec.smod 32).toNat).getLsbD i = _
  rw [s_l n hn, BitVec.getLsbD_sshiftRight, BitVec.msb_eq_getLsbD_last]
  simp [hi]
theorem bp_b (x : Int32) : x.toInt8.toInt32 &&& 255 = x &&& 255 := by
  apply Int32.toBitVec_inj.mp
  rw [Int32.toBitVec_and, Int32.toBitVec_and, Int8.toBitVec_toInt32, Int32.toBitVec_toInt8]
  apply BitVec.eq_of_getLsbD_eq
  intro i hi
  rw [BitVec.getLsbD_and, BitVec.getLsbD_and]
  have hm : ∀ i < 32, 8 ≤ i → (255 : Int32).toBitVec.getLsbD i = false := by decide
  rcases Nat.lt_or_ge i 8 with z | z
  · rw [BitVec.getLsbD_signExtend, BitVec.getLsbD_signExtend, if_pos z, if_pos hi]
    simp only [z, hi, decide_true, Bool.true_and]
  · rw [hm i hi z]; simp
/-! weakest preconditions of the printed methods' pictures -/
def zwp {α : Type} (x : Option α) (Q : α → Prop) : Prop := ∃ a, x = some a ∧ Q a
theorem zwp_some {α : Type} {a : α} {Q : α → Prop} : zwp (some a) Q ↔ Q a :=
  ⟨fun ⟨b, h, q⟩ => by cases h; exact q, fun h => ⟨a, rfl, h⟩⟩
theorem zwp_bind {α β : Type} {x : Option α} {f : α → Option β} {Q : β → Prop} : zwp (x.bind f) Q ↔ zwp x (fun a => zwp (f a) Q) := by
  constructor
  · rintro ⟨b, h, q⟩
    cases x with
    | none => cases h
    | some a => exact ⟨a, rfl, b, h, q⟩
  · rintro ⟨a, rfl, b, h, q⟩
    exact ⟨b, h, q⟩
theorem zwp_let {β : Type} {s : zH} {f : zH → Option β} {Q : β → Prop} : zwp (zlet s f) Q ↔ zwp (f s) Q := Iff.rfl
theorem zwp_if {α : Type} {c : Prop} [Decidable c] {x y : Option α} {Q : α → Prop} (h1 : c → zwp x Q) (h2 : ¬ c → zwp y Q) : zwp (if c then x else y) Q := by
  by_cases h : c
  · rw [if_pos h]; exact h1 h
  · rw [if_neg h]; exact h2 h
theorem zwp_mono {α : Type} {x : Option α} {P Q : α → Prop} (h : zwp x P) (hq : ∀ a, P a → Q a) : zwp x Q := by
  obtain ⟨a, e, p⟩ := h
  exact ⟨a, e, hq a p⟩
theorem zwp_eq {α : Type} {x : Option α} {v : α} : zwp x (fun a => a = v) ↔ x = some v :=
  ⟨fun ⟨a, e, h⟩ => by rw [e, h], fun h => ⟨v, h, rfl⟩⟩
theorem zwp_to {α β : Type} {x : Option α} {f : α → Option β} {P : α → Prop} {Q : β → Prop} (h : zwp x P) (k : ∀ a, P a → zwp (f a) Q) : zwp (x.bind f) Q := zwp_bind.mpr (zwp_mono h k)
theorem ix_nI {α : Type} {i n : Nat} {f : Nat → Option α} (h : i < n) (hn : n < 2 ^ 31) : ix (nI i) n f = f i := by
  unfold ix
  rw [if_neg (nI_in h hn), nI_clamp (Nat.lt_trans h hn)]
theorem zwp_ix {α : Type} {i n : Nat} {f : Nat → Option α} {Q : α → Prop} (h : i < n) (hn : n < 2 ^ 31) (k : zwp (f i) Q) : zwp (ix (nI i) n f) Q := by
  rw [ix_nI h hn]; exact k
theorem tv_01 {α : Type} {x : Int32} {f : Option α} (h : x = 0 ∨ x = 1) : tv x f = f := by
  unfold tv
  rw [if_pos h]
theorem nz_ne {α : Type} {x : Int32} {f : Option α} (h : x ≠ 0) : nz x f = f := by unfold nz; rw [if_neg h]
/-! loops: index i from i0 to n -/
theorem zwp_loop {α β : Type} (k : Nat → Nat → α → Option β) (I : Nat → α → Prop) (Q : β → Prop) (n : Nat)
    (step : ∀ f i a, i < n → I i a → (∀ a', I (i + 1) a' → zwp (k f (i + 1) a') Q) → zwp (k (f + 1) i a) Q)
    (done : ∀ f a, I n a → zwp (k (f + 1) n a) Q) : ∀ (d i f : Nat) (a : α), i + d = n → d < f → I i a → zwp (k f i a) Q
  | 0, i, f, a, h, hf, hI => by
    have e : i = n := by omega
    subst e
    obtain ⟨f, rfl⟩ : ∃ g, f = g + 1 := ⟨f - 1, by omega⟩
    exact done f a hI
  | d + 1, i, f, a, h, hf, hI => by
    obtain ⟨f, rfl⟩ : ∃ g, f = g + 1 := ⟨f - 1, by omega⟩
    exact step f i a (by omega) hI (fun a' h' => zwp_loop k I Q n step done d (i + 1) f a' (by omega) (by omega) h')
theorem zwp_for {α β : Type} (k : Nat → Nat → α → Option β) (I : Nat → α → Prop) (Q : β → Prop) (i n : Nat) (hn : n < 4000) (hi : i ≤ n)
    (step : ∀ f i a, i < n → I i a → (∀ a', I (i + 1) a' → zwp (k f (i + 1) a') Q) → zwp (k (f + 1) i a) Q)
    (done : ∀ f a, I n a → zwp (k (f + 1) n a) Q) (a : α) (h0 : I i a) : zwp (k zN i a) Q :=
  zwp_loop k I Q n step done (n - i) i zN a (by omega) (by rw [zN_eq]; omega) h0
/-- a loop with a measure -/
theorem zwp_while {α β : Type} (k : Nat → α → Option β) (I : α → Prop) (μ : α → Nat) (Q : β → Prop)
    (step : ∀ f a, I a → (∀ a', I a' → μ a' < μ a → zwp (k f a') Q) → zwp (k (f + 1) a) Q) : ∀ (f : Nat) (a : α), μ a < f → I a → zwp (k f a) Q
  | 0, a, h, _ => by omega
  | f + 1, a, h, hI => step f a hI (fun a' h' hm => zwp_while k I μ Q step f a' (by omega) h')
theorem zwp_whileN {α β : Type} (k : Nat → α → Option β) (I : α → Prop) (μ : α → Nat) (Q : β → Prop)
    (step : ∀ f a, I a → (∀ a', I a' → μ a' < μ a → zwp (k f a') Q) → zwp (k (f + 1) a) Q) (a : α) (hm : μ a < 4096) (h0 : I a) : zwp (k zN a) Q :=
  zwp_while k I μ Q step zN a (by rw [zN_eq]; exact hm) h0
/-! truth values -/
def b2i (b : Bool) : Int32 := cond b 1 0
theorem b2i_0 {b : Bool} : b2i b = 0 ↔ b = false := by cases b <;> decide +kernel
theorem b2i_1 {b : Bool} : b2i b = 1 ↔ b = true := by cases b <;> decide +kernel
theorem b2i_01 (b : Bool) : b2i b = 0 ∨ b2i b = 1 := by cases b <;> decide +kernel
theorem b2i_t : b2i true = 1 := rfl
theorem b2i_f : b2i false = 0 := rfl
/-- some i below n has p; the first one; sums; bits -/
def qany (p : Nat → Bool) : Nat → Bool
  | 0 => false
  | n + 1 => qany p n || p n
def qfst (p : Nat → Bool) : Nat → Int32
  | 0 => -1
  | n + 1 => if qany p n then qfst p n else if p n then nI n else -1
def qsum (f : Nat → Int32) : Nat → Int32
  | 0 => 0
  | n + 1 => qsum f n + f n
theorem qany_of {p : Nat → Bool} : ∀ {n i : Nat}, i < n → p i = true → qany p n = true
  | n + 1, i, h, hp => by
    rw [qany]
    by_cases e : i = n
    · subst e; rw [hp, Bool.or_true]
    · rw [qany_of (by omega) hp, Bool.true_or]
theorem qany_no {p : Nat → Bool} : ∀ {n : Nat}, (∀ i, i < n → p i = false) → qany p n = false
  | 0, _ => rfl
  | n + 1, h => by rw [qany, qany_no (fun i hi => h i (by omega)), h n (by omega)]; rfl
theorem qany_ex {p : Nat → Bool} : ∀ {n : Nat}, qany p n = true → ∃ i, i < n ∧ p i = true
  | n + 1, h => by
    rw [qany, Bool.or_eq_true] at h
    rcases h with h | h
    · obtain ⟨i, hi, hp⟩ := qany_ex h
      exact ⟨i, by omega, hp⟩
    · exact ⟨n, by omega, h⟩
theorem qany_f {p : Nat → Bool} {n : Nat} (h : qany p n = false) (i : Nat) (hi : i < n) : p i = false := by
  cases e : p i with
  | false => rfl
  | true => rw [qany_of hi e] at h; cases h
theorem qany_cong {p q : Nat → Bool} {n : Nat} (h : ∀ i, i < n → p i = q i) : qany p n = qany q n := by
  induction n with
  | zero => rfl
  | succ n ih => rw [qany, qany, ih (fun i hi => h i (by omega)), h n (by omega)]
theorem qfst_cong {p q : Nat → Bool} {n : Nat} (h : ∀ i, i < n → p i = q i) : qfst p n = qfst q n := by
  induction n with
  | zero => rfl
  | succ n ih => rw [qfst, qfst, ih (fun i hi => h i (by omega)), h n (by omega), qany_cong (fun i hi => h i (by omega))]
theorem qsum_cong {p q : Nat → Int32} {n : Nat} (h : ∀ i, i < n → p i = q i) : qsum p n = qsum q n := by
  induction n with
  | zero => rfl
  | succ n ih => rw [qsum, qsum, ih (fun i hi => h i (by omega)), h n (by omega)]
theorem qfst_no {p : Nat → Bool} {n : Nat} (h : qany p n = false) : qfst p n = -1 := by
  cases n with
  | zero => rfl
  | succ n =>
    have h1 := qany_f h n (by omega)
    have h2 : qany p n = false := qany_no (fun i hi => qany_f h i (by omega))
    rw [qfst, h1, h2]; rfl
theorem qfst_of {p : Nat → Bool} {i : Nat} (h0 : qany p i = false) (hp : p i = true) : ∀ {n : Nat}, i < n → qfst p n = nI i
  | n + 1, hi => by
    rw [qfst]
    by_cases e : i = n
    · subst e; rw [h0, hp]; rfl
    · rw [if_pos (qany_of (by omega) hp), qfst_of h0 hp (by omega)]
theorem qfst_cases (p : Nat → Bool) (n : Nat) : (qany p n = false ∧ qfst p n = -1) ∨ ∃ i, i < n ∧ p i = true ∧ (∀ j, j < i → p j = false) ∧ qfst p n = nI i := by
  induction n with
  | zero => exact Or.inl ⟨rfl, rfl⟩
  | succ n ih =>
    rcases ih with ⟨h1, h2⟩ | ⟨i, hi, hp, hj, h2⟩
    · cases e : p n with
      | false => exact Or.inl ⟨by rw [qany, h1, e]; rfl, by rw [qfst, h1, e]; rfl⟩
      | true => exact Or.inr ⟨n, by omega, e, fun j hj => qany_f h1 j hj, by rw [qfst, h1, e]; rfl⟩
    · exact Or.inr ⟨i, by omega, hp, hj, qfst_of (qany_no hj) hp (by omega)⟩
theorem qsum_upd {f : Nat → Int32} {c : Nat} (v : Int32) : ∀ {n : Nat}, c < n → qsum (fun i => if i = c then v else f i) n = qsum f n - f c + v
  | n + 1, h => by
    rw [qsum, qsum]
    by_cases e : c = n
    · subst e
      rw [if_pos rfl, qsum_cong (q := f) (fun i hi => if_neg (by omega))]
      rw [Int32.add_sub_cancel]
    · rw [if_neg (by omega), qsum_upd v (by omega)]
      rw [Int32.sub_eq_add_neg, Int32.sub_eq_add_neg]
      ac_rfl
/-! a set of numbers as bits -/
def q1 (i : Nat) : Int32 := (1 : Int32) <<< (nI i &&& 31)
def qmask (p : Nat → Bool) : Nat → Int32
  | 0 => 0
  | n + 1 => qmask p n ||| (if p n then q1 n else 0)
theorem bt_1 : ∀ i, i < 32 → bt 1 i = decide (i = 0) := by decide +kernel
theorem bt_q1 {n i : Nat} (hn : n < 32) (hi : i < 32) : bt (q1 n) i = decide (i = n) := by
  unfold q1
  rw [b_shl n hn _ hi]
  by_cases h : n ≤ i
  · rw [bt_1 _ (by omega)]
    simp only [h, decide_true, Bool.true_and]
    congr 1
    simp only [eq_iff_iff]
    omega
  · simp only [h, decide_false, Bool.false_and]
    rw [decide_eq_false (by omega)]
theorem bt_mask (p : Nat → Bool) : ∀ (n : Nat), n ≤ 32 → ∀ i, i < 32 → bt (qmask p n) i = (decide (i < n) && p i)
  | 0, _, i, _ => by rw [qmask, b_0]; simp
  | n + 1, h, i, hi => by
    rw [qmask, b_or, bt_mask p n (by omega) i hi]
    by_cases e : i = n
    · subst e
      cases hp : p i with
      | false => simp [b_0]
      | true => rw [if_pos rfl, bt_q1 hi hi]; simp
    · have : bt (if p n then q1 n else 0) i = false := by
        split
        · rw [bt_q1 (by omega) hi, decide_eq_false e]
        · exact b_0 i
      rw [this, Bool.or_false]
      congr 1
      simp only [decide_eq_decide]
      omega
theorem qmask_cong {p q : Nat → Bool} {n : Nat} (h : ∀ i, i < n → p i = q i) : qmask p n = qmask q n := by
  induction n with
  | zero => rfl
  | succ n ih => rw [qmask, qmask, ih (fun i hi => h i (by omega)), h n (by omega)]
/-- a bit asked for as the program does -/
theorem bt_ask (m : Int32) {i : Nat} (hi : i < 32) : (m >>> (nI i &&& 31)) &&& 1 = b2i (bt m i) := by
  refine b_ext (fun j hj => ?_)
  rw [b_and, bt_1 j hj]
  by_cases e : j = 0
  · subst e
    rw [b_sshr i hi m (by omega)]
    simp only [Nat.add_zero, hi, if_true, decide_true, Bool.and_true]
    cases bt m i <;> decide +kernel
  · simp only [e, decide_false, Bool.and_false]
    cases bt m i with
    | false => exact (b_0 j).symm
    | true => exact (by rw [b2i_t, bt_1 j hj, decide_eq_false e])
theorem bt_not (m : Int32) {i : Nat} (hi : i < 32) : bt (m ^^^ (-1)) i = !bt m i := by
  rw [b_xor, b_m1 i hi, Bool.xor_true]
theorem bt_full : ∀ n, n < 13 → ∀ i, i < 32 → bt (((1 : Int32) <<< (nI n &&& 31)) - 1) i = decide (i < n) := by decide +kernel
