/-! THE ABSTRACT MACHINE: values, heaps by kind, instance and place; its steps; what it has to do with the machine -/
abbrev zAV : Type := Int32 ⊕ Int64 ⊕ (Nat × Nat) ⊕ Unit
abbrev vI (x : Int32) : zAV := Sum.inl x
abbrev vL (x : Int64) : zAV := Sum.inr (Sum.inl x)
abbrev vR (k i : Nat) : zAV := Sum.inr (Sum.inr (Sum.inl (k, i)))
abbrev vU : zAV := Sum.inr (Sum.inr (Sum.inr ()))
abbrev zH : Type := (Nat → Nat → Nat → Int32) × (Nat → Nat → Nat → Int64)
def uI (σ : zH) (k i j : Nat) (x : Int32) : zH := (fun k' i' j' => if k' = k ∧ i' = i ∧ j' = j then x else σ.1 k' i' j', σ.2)
def uL (σ : zH) (k i j : Nat) (x : Int64) : zH := (σ.1, fun k' i' j' => if k' = k ∧ i' = i ∧ j' = j then x else σ.2 k' i' j')
def cpI (σ : zH) (k i k1 i1 sp dp n : Nat) : zH := (fun k' i' j' => if k' = k1 ∧ i' = i1 then va_cpy (σ.1 k i) (σ.1 k1 i1) sp dp n j' else σ.1 k' i' j', σ.2)
def kI : Int → Int32
  | .ofNat n => Int32.ofNat n
  | .negSucc n => -(Int32.ofNat (n + 1))
/-- place, raw instruction, length; two numbers, a word's place, 1 if nothing comes back; what a field holds; constants; a switch's rows -/
abbrev zEnt : Type := Nat × Instr × Nat × (Nat × Nat × Nat × Nat) × (Nat × Nat × Nat) × Int32 × Int64 × List (Int32 × Nat)
abbrev eA (e : zEnt) : Nat := e.2.2.2.1.1
abbrev eB (e : zEnt) : Nat := e.2.2.2.1.2.1
abbrev eW (e : zEnt) : Nat := e.2.2.2.1.2.2.1
abbrev eU (e : zEnt) : Nat := e.2.2.2.1.2.2.2
abbrev eF (e : zEnt) : Nat × Nat × Nat := e.2.2.2.2.1
abbrev eK (e : zEnt) : Int32 := e.2.2.2.2.2.1
abbrev eJ (e : zEnt) : Int64 := e.2.2.2.2.2.2.1
abbrev eS (e : zEnt) : List (Int32 × Nat) := e.2.2.2.2.2.2.2
abbrev zE (pc : Nat) (i : Instr) (n : Nat) : zEnt := (pc, i, n, (0, 0, 0, 0), (0, 0, 0), 0, 0, [])
abbrev zEk (pc : Nat) (i : Instr) (n : Nat) (k : Int32) : zEnt := (pc, i, n, (0, 0, 0, 0), (0, 0, 0), k, 0, [])
abbrev zEa (pc : Nat) (i : Instr) (n a : Nat) : zEnt := (pc, i, n, (a, 0, 0, 0), (0, 0, 0), 0, 0, [])
abbrev zEf (pc : Nat) (i : Instr) (n a b w : Nat) (f : Nat × Nat × Nat) : zEnt := (pc, i, n, (a, b, w, 0), f, 0, 0, [])
abbrev zEc (pc : Nat) (i : Instr) (n a b w u : Nat) : zEnt := (pc, i, n, (a, b, w, u), (0, 0, 0), 0, 0, [])
section
variable {ρ : Type}
def gd (b : Bool) (x : Option ρ) : Option ρ := cond b x none
def ix (x : Int32) (n : Nat) (f : Nat → Option ρ) : Option ρ := if x < 0 ∨ n ≤ x.toNatClampNeg then none else f x.toNatClampNeg
/-- a truth value: 0 or 1 -/
def tv (x : Int32) (f : Option ρ) : Option ρ := if x = 0 ∨ x = 1 then f else none
def nz (y : Int32) (f : Option ρ) : Option ρ := if y = 0 then none else f
def nzL (y : Int64) (f : Option ρ) : Option ρ := if y = 0 then none else f
def zpI (st : List zAV) (f : Int32 → List zAV → Option ρ) : Option ρ := match st with
  | .inl x :: r => f x r
  | _ => none
def zpL (st : List zAV) (f : Int64 → List zAV → Option ρ) : Option ρ := match st with
  | .inr (.inl x) :: r => f x r
  | _ => none
def zpR (st : List zAV) (f : Nat → Nat → List zAV → Option ρ) : Option ρ := match st with
  | .inr (.inr (.inl q)) :: r => f q.1 q.2 r
  | _ => none
def zp1 (st : List zAV) (f : zAV → List zAV → Option ρ) : Option ρ := match st with
  | x :: r => f x r
  | _ => none
def zvI (v : zAV) (f : Int32 → Option ρ) : Option ρ := match v with
  | .inl x => f x
  | _ => none
def zvL (v : zAV) (f : Int64 → Option ρ) : Option ρ := match v with
  | .inr (.inl x) => f x
  | _ => none
def zvR (v : zAV) (f : Nat → Nat → Option ρ) : Option ρ := match v with
  | .inr (.inr (.inl q)) => f q.1 q.2
  | _ => none
end
def zmx (x y : Int32) : Int32 := if x < y then y else x
def zmn (x y : Int32) : Int32 := if y < x then y else x
def zc1 (v : zAV) : Bool := match v with
  | .inr (.inl _) => false
  | _ => true
def zcs : List zAV → Nat
  | [] => 0
  | .inr (.inl _) :: r => 2 + zcs r
  | _ :: r => 1 + zcs r
def zpush (u : Nat) (v : zAV) (st : List zAV) : List zAV := match u with
  | 0 => v :: st
  | _ => st
def zkp (v : zAV) : zAV := match v with
  | .inr (.inl _) => vU
  | v => v
/-- a store makes a long that began one place ahead unreadable -/
def zs1 : List zAV → Nat → zAV → List zAV
  | [], _, _ => []
  | _ :: t, 0, v => v :: t
  | x :: t, 1, v => zkp x :: zs1 t 0 v
  | x :: t, n + 2, v => x :: zs1 t (n + 1) v
def zs2 : List zAV → Nat → zAV → List zAV
  | [], _, _ => []
  | [_], 0, v => [v]
  | _ :: _ :: t, 0, v => v :: vU :: t
  | x :: t, 1, v => zkp x :: zs2 t 0 v
  | x :: t, n + 2, v => x :: zs2 t (n + 1) v
def zgt : List zAV → Nat → zAV
  | [], _ => vU
  | x :: _, 0 => x
  | _ :: t, n + 1 => zgt t n
section
variable {ρ : Type}
def zif (c : Jvm.ClassFile.Cond) (x y : Int32) (t f : Option ρ) : Option ρ := match c with
  | .eq => if x = y then t else f
  | .ne => if x = y then f else t
  | .lt => if x < y then t else f
  | .ge => if x < y then f else t
  | .gt => if y < x then t else f
  | .le => if y < x then f else t
def zsw (x : Int32) (go : Nat → Option ρ) (d : Nat) : List (Int32 × Nat) → Option ρ
  | [] => go d
  | q :: os => zif .eq x q.1 (go q.2) (zsw x go d os)
/-- the machine's walk of a row of instructions; C: calls, G: jumps, kr: the end -/
def zev (C : Nat → zH → List zAV → (zH → zAV → Option ρ) → Option ρ) (G : Nat → zH → List zAV → List zAV → Option ρ) (rt : Nat) (kr : zH → zAV → Option ρ) : List zEnt → zH → List zAV → List zAV → Option ρ
  | [], _, _, _ => none
  | e :: es, σ, L, st => match e.2.1 with
    | .nop => G e.1 σ L st
    | .iconst _ => zev C G rt kr es σ L (vI (eK e) :: st)
    | .bipush _ => zev C G rt kr es σ L (vI (eK e) :: st)
    | .sipush _ => zev C G rt kr es σ L (vI (eK e) :: st)
    | .lconst _ => zev C G rt kr es σ L (vL (eJ e) :: st)
    | .ldc _ => bif (eA e) == 0 then zev C G rt kr es σ L (vI (eK e) :: st) else zev C G rt kr es σ L (vR 200 (eB e) :: st)
    | .ldc_w _ => bif (eA e) == 0 then zev C G rt kr es σ L (vI (eK e) :: st) else zev C G rt kr es σ L (vR 200 (eB e) :: st)
    | .ldc2_w _ => zev C G rt kr es σ L (vL (eJ e) :: st)
    | .iload_n n => zvI (zgt L n.val) fun x => zev C G rt kr es σ L (vI x :: st)
    | .iload n => zvI (zgt L n) fun x => zev C G rt kr es σ L (vI x :: st)
    | .lload_n n => zvL (zgt L n.val) fun x => zev C G rt kr es σ L (vL x :: st)
    | .lload n => zvL (zgt L n) fun x => zev C G rt kr es σ L (vL x :: st)
    | .aload_n n => zvR (zgt L n.val) fun k i => zev C G rt kr es σ L (vR k i :: st)
    | .aload n => zvR (zgt L n) fun k i => zev C G rt kr es σ L (vR k i :: st)
    | .istore_n n => zpI st fun x r => zev C G rt kr es σ (zs1 L n.val (vI x)) r
    | .istore n => zpI st fun x r => zev C G rt kr es σ (zs1 L n (vI x)) r
    | .lstore_n n => zpL st fun x r => zev C G rt kr es σ (zs2 L n.val (vL x)) r
    | .lstore n => zpL st fun x r => zev C G rt kr es σ (zs2 L n (vL x)) r
    | .astore_n n => zpR st fun k i r => zev C G rt kr es σ (zs1 L n.val (vR k i)) r
    | .astore n => zpR st fun k i r => zev C G rt kr es σ (zs1 L n (vR k i)) r
    | .iinc n _ => zvI (zgt L n) fun x => zev C G rt kr es σ (zs1 L n (vI (x + (eK e)))) st
    | .iadd => zpI st fun y r => zpI r fun x r => zev C G rt kr es σ L (vI (x + y) :: r)
    | .isub => zpI st fun y r => zpI r fun x r => zev C G rt kr es σ L (vI (x - y) :: r)
    | .imul => zpI st fun y r => zpI r fun x r => zev C G rt kr es σ L (vI (x * y) :: r)
    | .iand => zpI st fun y r => zpI r fun x r => zev C G rt kr es σ L (vI (x &&& y) :: r)
    | .ior => zpI st fun y r => zpI r fun x r => zev C G rt kr es σ L (vI (x ||| y) :: r)
    | .ixor => zpI st fun y r => zpI r fun x r => zev C G rt kr es σ L (vI (x ^^^ y) :: r)
    | .ishl => zpI st fun y r => zpI r fun x r => zev C G rt kr es σ L (vI (x <<< (y &&& 31)) :: r)
    | .ishr => zpI st fun y r => zpI r fun x r => zev C G rt kr es σ L (vI (x >>> (y &&& 31)) :: r)
    | .iushr => zpI st fun y r => zpI r fun x r => zev C G rt kr es σ L (vI (x.toUInt32 >>> (y.toUInt32 &&& Int32.toUInt32 31)).toInt32 :: r)
    | .idiv => zpI st fun y r => zpI r fun x r => nz y (zev C G rt kr es σ L (vI (x / y) :: r))
    | .irem => zpI st fun y r => zpI r fun x r => nz y (zev C G rt kr es σ L (vI (x - x / y * y) :: r))
    | .ladd => zpL st fun y r => zpL r fun x r => zev C G rt kr es σ L (vL (x + y) :: r)
    | .lsub => zpL st fun y r => zpL r fun x r => zev C G rt kr es σ L (vL (x - y) :: r)
    | .lmul => zpL st fun y r => zpL r fun x r => zev C G rt kr es σ L (vL (x * y) :: r)
    | .land => zpL st fun y r => zpL r fun x r => zev C G rt kr es σ L (vL (x &&& y) :: r)
    | .lor => zpL st fun y r => zpL r fun x r => zev C G rt kr es σ L (vL (x ||| y) :: r)
    | .ldiv => zpL st fun y r => zpL r fun x r => nzL y (zev C G rt kr es σ L (vL (x / y) :: r))
    | .lrem => zpL st fun y r => zpL r fun x r => nzL y (zev C G rt kr es σ L (vL (x - x / y * y) :: r))
    | .lcmp => zpL st fun y r => zpL r fun x r => zev C G rt kr es σ L (vI (lg_cmp x y) :: r)
    | .i2l => zpI st fun x r => zev C G rt kr es σ L (vL x.toInt64 :: r)
    | .l2i => zpL st fun x r => zev C G rt kr es σ L (vI x.toInt32 :: r)
    | .i2b => zpI st fun x r => zev C G rt kr es σ L (vI x.toInt8.toInt32 :: r)
    | .dup => zp1 st fun v r => gd (zc1 v) (zev C G rt kr es σ L (v :: v :: r))
    | .pop => zp1 st fun v r => gd (zc1 v) (zev C G rt kr es σ L r)
    | .dup2 => zp1 st fun v r => zp1 r fun w r => gd (zc1 v && zc1 w) (zev C G rt kr es σ L (v :: w :: v :: w :: r))
    | .goto _ => G (eA e) σ L st
    | .ifCond c _ => zpI st fun x r => zif c x 0 (G (eA e) σ L r) (zev C G rt kr es σ L r)
    | .if_icmp c _ => zpI st fun y r => zpI r fun x r => zif c x y (G (eA e) σ L r) (zev C G rt kr es σ L r)
    | .tableswitch _ _ _ _ => zpI st fun x r => zsw x (fun t => G t σ L r) (eA e) (eS e)
    | .lookupswitch _ _ => zpI st fun x r => zsw x (fun t => G t σ L r) (eA e) (eS e)
    | .getfield _ => zpR st fun k i r => gd (k == (eA e)) (match (eF e) with
        | (0, _, _) => zev C G rt kr es σ L (vI (σ.1 (eA e) i (eB e)) :: r)
        | (1, k', d) => zev C G rt kr es σ L (vR k' (i + d) :: r)
        | (2, k', d) => zev C G rt kr es σ L (vR k' d :: r)
        | (4, k', _) => zev C G rt kr es σ L (vR k' i :: r)
        | (3, k', _) => ix (σ.1 (eA e) i (eB e)) (zcnt k') fun q => zev C G rt kr es σ L (vR k' q :: r)
        | _ => none)
    | .putfield _ => match (eF e) with
        | (0, 0, _) => zpI st fun x r => zpR r fun k i r => gd (k == (eA e)) (zev C G rt kr es (uI σ (eA e) i (eB e) x) L r)
        | (0, 1, _) => zpI st fun x r => zpR r fun k i r => gd (k == (eA e)) (tv x (zev C G rt kr es (uI σ (eA e) i (eB e) x) L r))
        | (3, k', _) => zpR st fun k1 q r => zpR r fun k i r => gd (k == (eA e) && k1 == k') (zev C G rt kr es (uI σ (eA e) i (eB e) (Int32.ofNat q)) L r)
        | _ => none
    | .iaload => zpI st fun x r => zpR r fun k i r => gd (aT k == 0) (ix x (aN k) fun n => zev C G rt kr es σ L (vI (σ.1 k i n) :: r))
    | .baload => zpI st fun x r => zpR r fun k i r => gd (aT k == 1 || aT k == 2) (ix x (aN k) fun n => zev C G rt kr es σ L (vI (σ.1 k i n) :: r))
    | .laload => zpI st fun x r => zpR r fun k i r => gd (aT k == 3) (ix x (aN k) fun n => zev C G rt kr es σ L (vL (σ.2 k i n) :: r))
    | .aaload => zpI st fun x r => zpR r fun k i r => gd (Nat.ble 4 (aT k) && Nat.ble (aT k) 6) (ix x (aN k) fun n => zev C G rt kr es σ L (vR (aK k) (aB k + n) :: r))
    | .arraylength => zpR st fun k i r => gd (Nat.ble (aT k) 6) (zev C G rt kr es σ L (vI (Int32.ofNat (aN k)) :: r))
    | .iastore => zpI st fun y r => zpI r fun x r => zpR r fun k i r => gd (aT k == 0) (ix x (aN k) fun n => zev C G rt kr es (uI σ k i n y) L r)
    | .bastore => zpI st fun y r => zpI r fun x r => zpR r fun k i r => bif aT k == 1 then ix x (aN k) fun n => zev C G rt kr es (uI σ k i n y.toInt8.toInt32) L r else gd (aT k == 2) (tv y (ix x (aN k) fun n => zev C G rt kr es (uI σ k i n y) L r))
    | .lastore => zpL st fun y r => zpI r fun x r => zpR r fun k i r => gd (aT k == 3) (ix x (aN k) fun n => zev C G rt kr es (uL σ k i n y) L r)
    | .invokevirtual _ => if (eA e) = 9000 then zpR st fun k i r => gd (k == 200 && Nat.ble (zcs r) 8) (zev C G rt kr es σ L (vI (Int32.ofNat (zsN i)) :: r))
        else if (eA e) = 9001 then zpI st fun x r => zpR r fun k i r => gd (k == 200 && Nat.ble (zcs r) 8) (ix x (zsN i) fun n => zev C G rt kr es σ L (vI (zsC i n) :: r))
        else gd (Nat.ble (zcs (st.drop (eB e))) 8) (C (eA e) σ (st.take (eB e)).reverse fun σ v => zev C G rt kr es σ L (zpush (eU e) v (st.drop (eB e))))
    | .invokestatic _ => if (eA e) = 9002 then zpI st fun y r => zpI r fun x r => gd (Nat.ble (zcs r) 8) (zev C G rt kr es σ L (vI (zmx x y) :: r))
        else if (eA e) = 9003 then zpI st fun y r => zpI r fun x r => gd (Nat.ble (zcs r) 8) (zev C G rt kr es σ L (vI (zmn x y) :: r))
        else if (eA e) = 9004 then zpI st fun n r => zpI r fun dp r => zpR r fun k1 i1 r => zpI r fun sp r => zpR r fun k i r => gd (aT k == 0 && aT k1 == 0 && Nat.ble (zcs r) 8)
            (if sp < 0 ∨ dp < 0 ∨ n < 0 ∨ aN k < sp.toNatClampNeg + n.toNatClampNeg ∨ aN k1 < dp.toNatClampNeg + n.toNatClampNeg then none
              else zev C G rt kr es (cpI σ k i k1 i1 sp.toNatClampNeg dp.toNatClampNeg n.toNatClampNeg) L r)
        else gd (Nat.ble (zcs (st.drop (eB e))) 8) (C (eA e) σ (st.take (eB e)).reverse fun σ v => zev C G rt kr es σ L (zpush (eU e) v (st.drop (eB e))))
    | .ireturn => match st with
        | [.inl x] => match rt with
          | 0 => kr σ (vI x)
          | 1 => tv x (kr σ (vI x))
          | _ => none
        | _ => none
    | .lreturn => match st with
        | [.inr (.inl x)] => match rt with
          | 3 => kr σ (vL x)
          | _ => none
        | _ => none
    | .areturn => match st with
        | [.inr (.inr (.inl q))] => match rt with
          | 4 => kr σ (vR q.1 q.2)
          | _ => none
        | _ => none
    | .return_ => match st with
        | [] => if rt = 9 then kr σ vU else none
        | _ => none
    | _ => none
def zlk {α : Type} : List (Nat × α) → Nat → Option α
  | [], _ => none
  | (a, x) :: t, n => bif a == n then some x else zlk t n
def zrun (C : Nat → zH → List zAV → (zH → zAV → Option ρ) → Option ρ) (J : Nat → Option (zH → List zAV → List zAV → Option ρ)) (rt : Nat) (kr : zH → zAV → Option ρ) (bl : List (Nat × List zEnt)) : Nat → Nat → zH → List zAV → List zAV → Option ρ
  | 0, _, _, _, _ => none
  | n + 1, t, σ, L, st => match J t with
    | some f => f σ L st
    | none => match zlk bl t with
      | some es => zev C (zrun C J rt kr bl n) rt kr es σ L st
      | none => none
def zin (C : Nat → zH → List zAV → (zH → zAV → Option ρ) → Option ρ) (J : Nat → Option (zH → List zAV → List zAV → Option ρ)) (rt : Nat) (kr : zH → zAV → Option ρ) (bl : List (Nat × List zEnt)) (t : Nat) (σ : zH) (L st : List zAV) : Option ρ :=
  match zlk bl t with
  | some es => zev C (zrun C J rt kr bl 60) rt kr es σ L st
  | none => none
end
