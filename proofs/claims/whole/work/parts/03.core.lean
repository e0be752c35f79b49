/-! THE ABSTRACT MACHINE: values, heaps by kind, instance and place; its steps; what it has to do with the machine -/
abbrev zAV : Type := Int32 ⊕ Int64 ⊕ (Nat × Nat) ⊕ Unit
abbrev vI (x : Int32) : zAV := Sum.inl x
abbrev vL (x : Int64) : zAV := Sum.inr (Sum.inl x)
abbrev vR (k i : Nat) : zAV := Sum.inr (Sum.inr (Sum.inl (k, i)))
abbrev vU : zAV := Sum.inr (Sum.inr (Sum.inr ()))
abbrev zH : Type := (Nat → Nat → Nat → Int32) × (Nat → Nat → Nat → Int64)
def uI (σ : zH) (k i j : Nat) (x : Int32) : zH := (fun k' i' j' => if k' = k ∧ i' = i ∧ j' = j then x else σ.1 k' i' j', σ.2)
def uL (σ : zH) (k i j : Nat) (x : Int64) : zH := (σ.1, fun k' i' j' => if k' = k ∧ i' = i ∧ j' = j then x else σ.2 k' i' j')
def cpI (σ : zH) (k i k1 i1 sp dp n : Nat) : zH := (fun k' i' j' => if k' = k1 ∧ i' = i1 then va_cpy (σ.1 k i) (σ.1 k1 i1) sp dp n j' else σ.1 k' i' j', σ.2)
def kI : Int → Int32
  | .ofNat n => Int32.ofNat n
  | .negSucc n => -(Int32.ofNat (n + 1))
/-- raw instruction, place, length, two numbers, a word's place, 1 if nothing comes back -/
abbrev zEnt : Type := Nat × Instr × Nat × Nat × Nat × Nat × Nat
section
variable {ρ : Type}
def gd (b : Bool) (x : Option ρ) : Option ρ := cond b x none
def ix (x : Int32) (n : Nat) (f : Nat → Option ρ) : Option ρ := if x < 0 ∨ n ≤ x.toNatClampNeg then none else f x.toNatClampNeg
/-- a truth value: 0 or 1 -/
def tv (x : Int32) (f : Option ρ) : Option ρ := if x = 0 ∨ x = 1 then f else none
def nz (y : Int32) (f : Option ρ) : Option ρ := if y = 0 then none else f
def nzL (y : Int64) (f : Option ρ) : Option ρ := if y = 0 then none else f
def zpI (st : List zAV) (f : Int32 → List zAV → Option ρ) : Option ρ := match st with
  | .inl x :: r => f x r
  | _ => none
def zpL (st : List zAV) (f : Int64 → List zAV → Option ρ) : Option ρ := match st with
  | .inr (.inl x) :: r => f x r
  | _ => none
def zpR (st : List zAV) (f : Nat → Nat → List zAV → Option ρ) : Option ρ := match st with
  | .inr (.inr (.inl q)) :: r => f q.1 q.2 r
  | _ => none
def zp1 (st : List zAV) (f : zAV → List zAV → Option ρ) : Option ρ := match st with
  | x :: r => f x r
  | _ => none
def zvI (v : zAV) (f : Int32 → Option ρ) : Option ρ := match v with
  | .inl x => f x
  | _ => none
def zvL (v : zAV) (f : Int64 → Option ρ) : Option ρ := match v with
  | .inr (.inl x) => f x
  | _ => none
def zvR (v : zAV) (f : Nat → Nat → Option ρ) : Option ρ := match v with
  | .inr (.inr (.inl q)) => f q.1 q.2
  | _ => none
end
def zc1 (v : zAV) : Bool := match v with
  | .inr (.inl _) => false
  | _ => true
def zcs : List zAV → Nat
  | [] => 0
  | .inr (.inl _) :: r => 2 + zcs r
  | _ :: r => 1 + zcs r
def zpush (u : Nat) (v : zAV) (st : List zAV) : List zAV := match u with
  | 0 => v :: st
  | _ => st
def zkp (v : zAV) : zAV := match v with
  | .inr (.inl _) => vU
  | v => v
/-- a store makes a long that began one place ahead unreadable -/
def zkl (L : List zAV) (i : Nat) : List zAV := match i with
  | 0 => L
  | j + 1 => L.set j (zkp (L.getD j vU))
def zs1 (L : List zAV) (i : Nat) (v : zAV) : List zAV := (zkl L i).set i v
def zs2 (L : List zAV) (i : Nat) (v : zAV) : List zAV := ((zkl L i).set i v).set (i + 1) vU
section
variable {ρ : Type}
def zif (c : Jvm.ClassFile.Cond) (x y : Int32) (t f : Option ρ) : Option ρ := match c with
  | .eq => if x = y then t else f
  | .ne => if x = y then f else t
  | .lt => if x < y then t else f
  | .ge => if x < y then f else t
  | .gt => if y < x then t else f
  | .le => if y < x then f else t
def ztsw (x : Int32) (go : Int → Option ρ) (d : Int) : Int → List Int → Option ρ
  | _, [] => go d
  | lo, o :: os => if x = kI lo then go o else ztsw x go d (lo + 1) os
def zlsw (x : Int32) (go : Int → Option ρ) (d : Int) : List (Int × Int) → Option ρ
  | [] => go d
  | q :: os => if x = kI q.1 then go q.2 else zlsw x go d os
/-- the machine's walk of a row of instructions; C: calls, G: jumps, kr: the end -/
def zev (C : Nat → zH → List zAV → (zH → zAV → Option ρ) → Option ρ) (G : Nat → zH → List zAV → List zAV → Option ρ) (rt : Nat) (kr : zH → zAV → Option ρ) : List zEnt → zH → List zAV → List zAV → Option ρ
  | [], _, _, _ => none
  | e :: es, σ, L, st => match e.2.1 with
    | .nop => G e.1 σ L st
    | .iconst z => zev C G rt kr es σ L (vI (kI z) :: st)
    | .bipush z => zev C G rt kr es σ L (vI (kI z) :: st)
    | .sipush z => zev C G rt kr es σ L (vI (kI z) :: st)
    | .lconst n => zev C G rt kr es σ L (vL (Int64.ofNat n.val) :: st)
    | .ldc _ => zev C G rt kr es σ L ((if e.2.2.2.1 = 0 then vI (Int32.ofNat e.2.2.2.2.1) else vR 200 e.2.2.2.2.1) :: st)
    | .ldc_w _ => zev C G rt kr es σ L ((if e.2.2.2.1 = 0 then vI (Int32.ofNat e.2.2.2.2.1) else vR 200 e.2.2.2.2.1) :: st)
    | .ldc2_w _ => zev C G rt kr es σ L (vL (Int64.ofNat e.2.2.2.2.1) :: st)
    | .iload_n n => zvI (L.getD n.val vU) fun x => zev C G rt kr es σ L (vI x :: st)
    | .iload n => zvI (L.getD n vU) fun x => zev C G rt kr es σ L (vI x :: st)
    | .lload_n n => zvL (L.getD n.val vU) fun x => zev C G rt kr es σ L (vL x :: st)
    | .lload n => zvL (L.getD n vU) fun x => zev C G rt kr es σ L (vL x :: st)
    | .aload_n n => zvR (L.getD n.val vU) fun k i => zev C G rt kr es σ L (vR k i :: st)
    | .aload n => zvR (L.getD n vU) fun k i => zev C G rt kr es σ L (vR k i :: st)
    | .istore_n n => zpI st fun x r => zev C G rt kr es σ (zs1 L n.val (vI x)) r
    | .istore n => zpI st fun x r => zev C G rt kr es σ (zs1 L n (vI x)) r
    | .lstore_n n => zpL st fun x r => zev C G rt kr es σ (zs2 L n.val (vL x)) r
    | .lstore n => zpL st fun x r => zev C G rt kr es σ (zs2 L n (vL x)) r
    | .astore_n n => zpR st fun k i r => zev C G rt kr es σ (zs1 L n.val (vR k i)) r
    | .astore n => zpR st fun k i r => zev C G rt kr es σ (zs1 L n (vR k i)) r
    | .iinc n z => zvI (L.getD n vU) fun x => zev C G rt kr es σ (zs1 L n (vI (x + kI z))) st
    | .iadd => zpI st fun y r => zpI r fun x r => zev C G rt kr es σ L (vI (x + y) :: r)
    | .isub => zpI st fun y r => zpI r fun x r => zev C G rt kr es σ L (vI (x - y) :: r)
    | .imul => zpI st fun y r => zpI r fun x r => zev C G rt kr es σ L (vI (x * y) :: r)
    | .iand => zpI st fun y r => zpI r fun x r => zev C G rt kr es σ L (vI (x &&& y) :: r)
    | .ior => zpI st fun y r => zpI r fun x r => zev C G rt kr es σ L (vI (x ||| y) :: r)
    | .ixor => zpI st fun y r => zpI r fun x r => zev C G rt kr es σ L (vI (x ^^^ y) :: r)
    | .ishl => zpI st fun y r => zpI r fun x r => zev C G rt kr es σ L (vI (x <<< (y &&& 31)) :: r)
    | .ishr => zpI st fun y r => zpI r fun x r => zev C G rt kr es σ L (vI (x >>> (y &&& 31)) :: r)
    | .iushr => zpI st fun y r => zpI r fun x r => zev C G rt kr es σ L (vI (x.toUInt32 >>> (y.toUInt32 &&& Int32.toUInt32 31)).toInt32 :: r)
    | .idiv => zpI st fun y r => zpI r fun x r => nz y (zev C G rt kr es σ L (vI (x / y) :: r))
    | .irem => zpI st fun y r => zpI r fun x r => nz y (zev C G rt kr es σ L (vI (x - x / y * y) :: r))
    | .ladd => zpL st fun y r => zpL r fun x r => zev C G rt kr es σ L (vL (x + y) :: r)
    | .lsub => zpL st fun y r => zpL r fun x r => zev C G rt kr es σ L (vL (x - y) :: r)
    | .lmul => zpL st fun y r => zpL r fun x r => zev C G rt kr es σ L (vL (x * y) :: r)
    | .land => zpL st fun y r => zpL r fun x r => zev C G rt kr es σ L (vL (x &&& y) :: r)
    | .lor => zpL st fun y r => zpL r fun x r => zev C G rt kr es σ L (vL (x ||| y) :: r)
    | .ldiv => zpL st fun y r => zpL r fun x r => nzL y (zev C G rt kr es σ L (vL (x / y) :: r))
    | .lrem => zpL st fun y r => zpL r fun x r => nzL y (zev C G rt kr es σ L (vL (x - x / y * y) :: r))
    | .lcmp => zpL st fun y r => zpL r fun x r => zev C G rt kr es σ L (vI (lg_cmp x y) :: r)
    | .i2l => zpI st fun x r => zev C G rt kr es σ L (vL x.toInt64 :: r)
    | .l2i => zpL st fun x r => zev C G rt kr es σ L (vI x.toInt32 :: r)
    | .i2b => zpI st fun x r => zev C G rt kr es σ L (vI x.toInt8.toInt32 :: r)
    | .dup => zp1 st fun v r => gd (zc1 v) (zev C G rt kr es σ L (v :: v :: r))
    | .pop => zp1 st fun v r => gd (zc1 v) (zev C G rt kr es σ L r)
    | .dup2 => zp1 st fun v r => zp1 r fun w r => gd (zc1 v && zc1 w) (zev C G rt kr es σ L (v :: w :: v :: w :: r))
    | .goto _ => G e.2.2.2.1 σ L st
    | .ifCond c _ => zpI st fun x r => zif c x 0 (G e.2.2.2.1 σ L r) (zev C G rt kr es σ L r)
    | .if_icmp c _ => zpI st fun y r => zpI r fun x r => zif c x y (G e.2.2.2.1 σ L r) (zev C G rt kr es σ L r)
    | .tableswitch d lo _ offs => zpI st fun x r => ztsw x (fun o => G ((e.1 : Int) + o).toNat σ L r) d lo offs.toList
    | .lookupswitch d ps => zpI st fun x r => zlsw x (fun o => G ((e.1 : Int) + o).toNat σ L r) d ps.toList
    | .getfield _ => zpR st fun k i r => gd (k == e.2.2.2.1) (match fC e.2.2.2.1 e.2.2.2.2.1 with
        | (0, _, _) => zev C G rt kr es σ L (vI (σ.1 e.2.2.2.1 i e.2.2.2.2.1) :: r)
        | (1, k', d) => zev C G rt kr es σ L (vR k' (i + d) :: r)
        | (2, k', d) => zev C G rt kr es σ L (vR k' d :: r)
        | (3, k', _) => ix (σ.1 e.2.2.2.1 i e.2.2.2.2.1) (zcnt k') fun q => zev C G rt kr es σ L (vR k' q :: r)
        | _ => none)
    | .putfield _ => match fC e.2.2.2.1 e.2.2.2.2.1 with
        | (0, 0, _) => zpI st fun x r => zpR r fun k i r => gd (k == e.2.2.2.1) (zev C G rt kr es (uI σ e.2.2.2.1 i e.2.2.2.2.1 x) L r)
        | (0, 1, _) => zpI st fun x r => zpR r fun k i r => gd (k == e.2.2.2.1) (tv x (zev C G rt kr es (uI σ e.2.2.2.1 i e.2.2.2.2.1 x) L r))
        | (3, k', _) => zpR st fun k1 q r => zpR r fun k i r => gd (k == e.2.2.2.1 && k1 == k') (zev C G rt kr es (uI σ e.2.2.2.1 i e.2.2.2.2.1 (Int32.ofNat q)) L r)
        | _ => none
    | .iaload => zpI st fun x r => zpR r fun k i r => gd (aT k == 0) (ix x (aN k) fun n => zev C G rt kr es σ L (vI (σ.1 k i n) :: r))
    | .baload => zpI st fun x r => zpR r fun k i r => gd (aT k == 1 || aT k == 2) (ix x (aN k) fun n => zev C G rt kr es σ L (vI (σ.1 k i n) :: r))
    | .laload => zpI st fun x r => zpR r fun k i r => gd (aT k == 3) (ix x (aN k) fun n => zev C G rt kr es σ L (vL (σ.2 k i n) :: r))
    | .aaload => zpI st fun x r => zpR r fun k i r => gd (Nat.ble 4 (aT k) && Nat.ble (aT k) 6) (ix x (aN k) fun n => zev C G rt kr es σ L (vR (aK k) (aB k + n) :: r))
    | .arraylength => zpR st fun k i r => gd (Nat.ble (aT k) 6) (zev C G rt kr es σ L (vI (Int32.ofNat (aN k)) :: r))
    | .iastore => zpI st fun y r => zpI r fun x r => zpR r fun k i r => gd (aT k == 0) (ix x (aN k) fun n => zev C G rt kr es (uI σ k i n y) L r)
    | .bastore => zpI st fun y r => zpI r fun x r => zpR r fun k i r => bif aT k == 1 then ix x (aN k) fun n => zev C G rt kr es (uI σ k i n y.toInt8.toInt32) L r else gd (aT k == 2) (tv y (ix x (aN k) fun n => zev C G rt kr es (uI σ k i n y) L r))
    | .lastore => zpL st fun y r => zpI r fun x r => zpR r fun k i r => gd (aT k == 3) (ix x (aN k) fun n => zev C G rt kr es (uL σ k i n y) L r)
    | .invokevirtual _ => if e.2.2.2.1 = 9000 then zpR st fun k i r => gd (k == 200 && Nat.ble (zcs r) 8) (zev C G rt kr es σ L (vI (Int32.ofNat (zsN i)) :: r))
        else if e.2.2.2.1 = 9001 then zpI st fun x r => zpR r fun k i r => gd (k == 200 && Nat.ble (zcs r) 8) (ix x (zsN i) fun n => zev C G rt kr es σ L (vI (zsC i n) :: r))
        else gd (Nat.ble (zcs (st.drop e.2.2.2.2.1)) 8) (C e.2.2.2.1 σ (st.take e.2.2.2.2.1).reverse fun σ v => zev C G rt kr es σ L (zpush e.2.2.2.2.2.2 v (st.drop e.2.2.2.2.1)))
    | .invokestatic _ => if e.2.2.2.1 = 9002 then zpI st fun y r => zpI r fun x r => gd (Nat.ble (zcs r) 8) (zev C G rt kr es σ L (vI (if x < y then y else x) :: r))
        else if e.2.2.2.1 = 9003 then zpI st fun y r => zpI r fun x r => gd (Nat.ble (zcs r) 8) (zev C G rt kr es σ L (vI (if y < x then y else x) :: r))
        else if e.2.2.2.1 = 9004 then zpI st fun n r => zpI r fun dp r => zpR r fun k1 i1 r => zpI r fun sp r => zpR r fun k i r => gd (aT k == 0 && aT k1 == 0 && Nat.ble (zcs r) 8)
            (if sp < 0 ∨ dp < 0 ∨ n < 0 ∨ aN k < sp.toNatClampNeg + n.toNatClampNeg ∨ aN k1 < dp.toNatClampNeg + n.toNatClampNeg then none
              else zev C G rt kr es (cpI σ k i k1 i1 sp.toNatClampNeg dp.toNatClampNeg n.toNatClampNeg) L r)
        else gd (Nat.ble (zcs (st.drop e.2.2.2.2.1)) 8) (C e.2.2.2.1 σ (st.take e.2.2.2.2.1).reverse fun σ v => zev C G rt kr es σ L (zpush e.2.2.2.2.2.2 v (st.drop e.2.2.2.2.1)))
    | .ireturn => match st with
        | [.inl x] => match rt with
          | 0 => kr σ (vI x)
          | 1 => tv x (kr σ (vI x))
          | _ => none
        | _ => none
    | .lreturn => match st with
        | [.inr (.inl x)] => match rt with
          | 3 => kr σ (vL x)
          | _ => none
        | _ => none
    | .areturn => match st with
        | [.inr (.inr (.inl q))] => match rt with
          | 4 => kr σ (vR q.1 q.2)
          | _ => none
        | _ => none
    | .return_ => match st with
        | [] => if rt = 9 then kr σ vU else none
        | _ => none
    | _ => none
def zlk {α : Type} : List (Nat × α) → Nat → Option α
  | [], _ => none
  | (a, x) :: t, n => bif a == n then some x else zlk t n
def zrun (C : Nat → zH → List zAV → (zH → zAV → Option ρ) → Option ρ) (J : Nat → Option (zH → List zAV → List zAV → Option ρ)) (rt : Nat) (kr : zH → zAV → Option ρ) (bl : List (Nat × List zEnt)) : Nat → Nat → zH → List zAV → List zAV → Option ρ
  | 0, _, _, _, _ => none
  | n + 1, t, σ, L, st => match J t with
    | some f => f σ L st
    | none => match zlk bl t with
      | some es => zev C (zrun C J rt kr bl n) rt kr es σ L st
      | none => none
def zin (C : Nat → zH → List zAV → (zH → zAV → Option ρ) → Option ρ) (J : Nat → Option (zH → List zAV → List zAV → Option ρ)) (rt : Nat) (kr : zH → zAV → Option ρ) (bl : List (Nat × List zEnt)) (t : Nat) (σ : zH) (L st : List zAV) : Option ρ :=
  match zlk bl t with
  | some es => zev C (zrun C J rt kr bl 60) rt kr es σ L st
  | none => none
end
