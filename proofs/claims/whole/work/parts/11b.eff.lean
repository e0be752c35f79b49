/-! what each instruction that is more than a push does to a walk -/
section
variable {ρ : Type} {C : Nat → zH → List zAV → (zH → zAV → Option ρ) → Option ρ} {G : Nat → zH → List zAV → List zAV → Option ρ} {rt : Nat} {kr : zH → zAV → Option ρ} {es : List zEnt} {σ : zH} {L st r : List zAV}
theorem x_goto {pc n a : Nat} {off : Int} : zev C G rt kr (zEa pc (.goto off) n a :: es) σ L st = G a σ L st := rfl
theorem x_cut {pc n : Nat} : zev C G rt kr (zE pc .nop n :: es) σ L st = G pc σ L st := rfl
theorem x_if {pc n a : Nat} {c : Jvm.ClassFile.Cond} {off : Int} {x : Int32} : zev C G rt kr (zEa pc (.ifCond c off) n a :: es) σ L (vI x :: r) = zif c x 0 (G a σ L r) (zev C G rt kr es σ L r) := rfl
theorem x_icmp {pc n a : Nat} {c : Jvm.ClassFile.Cond} {off : Int} {x y : Int32} : zev C G rt kr (zEa pc (.if_icmp c off) n a :: es) σ L (vI y :: vI x :: r) = zif c x y (G a σ L r) (zev C G rt kr es σ L r) := rfl
theorem x_tsw {pc n a : Nat} {d lo hi : Int} {offs : Array Int} {f : Nat × Nat × Nat} {k : Int32} {j : Int64} {w : Nat × Nat × Nat} {sw : List (Int32 × Nat)} {x : Int32} : zev C G rt kr ((pc, .tableswitch d lo hi offs, n, (a, w), f, k, j, sw) :: es) σ L (vI x :: r) = zsw x (fun t => G t σ L r) a sw := rfl
theorem x_lsw {pc n a : Nat} {d : Int} {ps : Array (Int × Int)} {f : Nat × Nat × Nat} {k : Int32} {j : Int64} {w : Nat × Nat × Nat} {sw : List (Int32 × Nat)} {x : Int32} : zev C G rt kr ((pc, .lookupswitch d ps, n, (a, w), f, k, j, sw) :: es) σ L (vI x :: r) = zsw x (fun t => G t σ L r) a sw := rfl
theorem zsw_c {x k : Int32} {go : Nat → Option ρ} {d t : Nat} {os : List (Int32 × Nat)} {u f : Option ρ} (h1 : go t = u) (h2 : zsw x go d os = f) : zsw x go d ((k, t) :: os) = if x = k then u else f := by rw [← h1, ← h2]; rfl
theorem zsw_n {x : Int32} {go : Nat → Option ρ} {d : Nat} {u : Option ρ} (h1 : go d = u) : zsw x go d [] = u := h1
theorem x_idiv {pc n : Nat} {x y : Int32} : zev C G rt kr (zE pc .idiv n :: es) σ L (vI y :: vI x :: r) = nz y (zev C G rt kr es σ L (vI (x / y) :: r)) := rfl
theorem x_irem {pc n : Nat} {x y : Int32} : zev C G rt kr (zE pc .irem n :: es) σ L (vI y :: vI x :: r) = nz y (zev C G rt kr es σ L (vI (x - x / y * y) :: r)) := rfl
theorem x_ldiv {pc n : Nat} {x y : Int64} : zev C G rt kr (zE pc .ldiv n :: es) σ L (vL y :: vL x :: r) = nzL y (zev C G rt kr es σ L (vL (x / y) :: r)) := rfl
theorem x_lrem {pc n : Nat} {x y : Int64} : zev C G rt kr (zE pc .lrem n :: es) σ L (vL y :: vL x :: r) = nzL y (zev C G rt kr es σ L (vL (x - x / y * y) :: r)) := rfl
theorem nz_l {y : Int32} {x : Option ρ} (h : ¬ y = 0) : nz y x = x := by rw [nz, if_neg h]
theorem nzL_l {y : Int64} {x : Option ρ} (h : ¬ y = 0) : nzL y x = x := by rw [nzL, if_neg h]
theorem tv_l {y : Int32} {x : Option ρ} (h : y = 0 ∨ y = 1) : tv y x = x := by rw [tv, if_pos h]
theorem ix_l {x : Int32} {n : Nat} {f : Nat → Option ρ} (j : Nat) (h : (decide (x < 0 ∨ n ≤ x.toNatClampNeg) || !decide (x.toNatClampNeg = j)) = false) : ix x n f = f j := by
  rw [Bool.or_eq_false_iff, decide_eq_false_iff_not, Bool.not_eq_false', decide_eq_true_eq] at h
  rw [ix, if_neg h.1, h.2]
theorem gd_l {b : Bool} {x : Option ρ} (h : b = true) : gd b x = x := by rw [h]; rfl
theorem x_gf3 {pc n a b w k' d i : Nat} {z : Nat} : zev C G rt kr (zEf pc (.getfield z) n a b w (3, k', d) :: es) σ L (vR a i :: r) = ix (σ.1 a i b) (zcnt k') fun q => zev C G rt kr es σ L (vR k' q :: r) := by
  show gd (a == a) _ = _
  rw [beq_self_eq_true]
  rfl
theorem x_pf0 {pc n a b w d i : Nat} {z : Nat} {x : Int32} : zev C G rt kr (zEf pc (.putfield z) n a b w (0, 0, d) :: es) σ L (vI x :: vR a i :: r) = zlet (uI σ a i b x) fun s => zev C G rt kr es s L r := by
  show gd (a == a) _ = _
  rw [beq_self_eq_true]
  rfl
theorem x_pf1 {pc n a b w d i : Nat} {z : Nat} {x : Int32} : zev C G rt kr (zEf pc (.putfield z) n a b w (0, 1, d) :: es) σ L (vI x :: vR a i :: r) = tv x (zlet (uI σ a i b x) fun s => zev C G rt kr es s L r) := by
  show gd (a == a) _ = _
  rw [beq_self_eq_true]
  rfl
theorem x_pf3 {pc n a b w d i k' q : Nat} {z : Nat} : zev C G rt kr (zEf pc (.putfield z) n a b w (3, k', d) :: es) σ L (vR k' q :: vR a i :: r) = zlet (uI σ a i b (Int32.ofNat q)) fun s => zev C G rt kr es s L r := by
  show gd (a == a && k' == k') _ = _
  rw [beq_self_eq_true, beq_self_eq_true]
  rfl
theorem x_iald {pc n k i N : Nat} {x : Int32} (hk : aT k = 0) (hn : aN k = N) : zev C G rt kr (zE pc .iaload n :: es) σ L (vI x :: vR k i :: r) = ix x N fun j => zev C G rt kr es σ L (vI (σ.1 k i j) :: r) := by
  show gd (aT k == 0) (ix x (aN k) _) = _
  rw [hk, hn]
  rfl
theorem x_iaP {pc n k i : Nat} {x : Int32} : zev C G rt kr (zE pc .iaload n :: es) σ L (vI x :: vR k i :: r) = gd (aT k == 0) (ix x (aN k) fun j => zev C G rt kr es σ L (vI (σ.1 k i j) :: r)) := rfl
theorem x_bald {pc n k i N : Nat} {x : Int32} (hk : (aT k == 1 || aT k == 2) = true) (hn : aN k = N) : zev C G rt kr (zE pc .baload n :: es) σ L (vI x :: vR k i :: r) = ix x N fun j => zev C G rt kr es σ L (vI (σ.1 k i j) :: r) := by
  show gd (aT k == 1 || aT k == 2) (ix x (aN k) _) = _
  rw [hk, hn]
  rfl
theorem x_lald {pc n k i N : Nat} {x : Int32} (hk : aT k = 3) (hn : aN k = N) : zev C G rt kr (zE pc .laload n :: es) σ L (vI x :: vR k i :: r) = ix x N fun j => zev C G rt kr es σ L (vL (σ.2 k i j) :: r) := by
  show gd (aT k == 3) (ix x (aN k) _) = _
  rw [hk, hn]
  rfl
theorem x_aald {pc n k i N K B : Nat} {x : Int32} (hk : (Nat.ble 4 (aT k) && Nat.ble (aT k) 6) = true) (hn : aN k = N) (hK : aK k = K) (hB : aB k = B) : zev C G rt kr (zE pc .aaload n :: es) σ L (vI x :: vR k i :: r) = ix x N fun j => zev C G rt kr es σ L (vR K (B + j) :: r) := by
  show gd (Nat.ble 4 (aT k) && Nat.ble (aT k) 6) (ix x (aN k) fun j => zev C G rt kr es σ L (vR (aK k) (aB k + j) :: r)) = _
  rw [hk, hn, hK, hB]
  rfl
theorem x_alP {pc n k i : Nat} : zev C G rt kr (zE pc .arraylength n :: es) σ L (vR k i :: r) = gd (Nat.ble (aT k) 6) (zev C G rt kr es σ L (vI (Int32.ofNat (aN k)) :: r)) := rfl
theorem x_iast {pc n k i N : Nat} {x y : Int32} (hk : aT k = 0) (hn : aN k = N) : zev C G rt kr (zE pc .iastore n :: es) σ L (vI y :: vI x :: vR k i :: r) = ix x N fun j => zlet (uI σ k i j y) fun s => zev C G rt kr es s L r := by
  show gd (aT k == 0) (ix x (aN k) _) = _
  rw [hk, hn]
  rfl
theorem x_iasP {pc n k i : Nat} {x y : Int32} : zev C G rt kr (zE pc .iastore n :: es) σ L (vI y :: vI x :: vR k i :: r) = gd (aT k == 0) (ix x (aN k) fun j => zlet (uI σ k i j y) fun s => zev C G rt kr es s L r) := rfl
theorem x_bas1 {pc n k i N : Nat} {x y : Int32} (hk : aT k = 1) (hn : aN k = N) : zev C G rt kr (zE pc .bastore n :: es) σ L (vI y :: vI x :: vR k i :: r) = ix x N fun j => zlet (uI σ k i j y.toInt8.toInt32) fun s => zev C G rt kr es s L r := by
  show (bif aT k == 1 then ix x (aN k) (fun n => zev C G rt kr es (uI σ k i n y.toInt8.toInt32) L r) else gd (aT k == 2) _) = _
  rw [hk, hn]
  rfl
theorem x_bas2 {pc n k i N : Nat} {x y : Int32} (hk : aT k = 2) (hn : aN k = N) : zev C G rt kr (zE pc .bastore n :: es) σ L (vI y :: vI x :: vR k i :: r) = tv y (ix x N fun j => zlet (uI σ k i j y) fun s => zev C G rt kr es s L r) := by
  show (bif aT k == 1 then _ else gd (aT k == 2) (tv y (ix x (aN k) fun n => zev C G rt kr es (uI σ k i n y) L r))) = _
  rw [hk, hn]
  rfl
theorem x_last {pc n k i N : Nat} {x : Int32} {y : Int64} (hk : aT k = 3) (hn : aN k = N) : zev C G rt kr (zE pc .lastore n :: es) σ L (vL y :: vI x :: vR k i :: r) = ix x N fun j => zlet (uL σ k i j y) fun s => zev C G rt kr es s L r := by
  show gd (aT k == 3) (ix x (aN k) _) = _
  rw [hk, hn]
  rfl
theorem x_char {pc n w e : Nat} {x : Int32} {z : Nat} (hr : Nat.ble (zcs r) 8 = true) : zev C G rt kr (zEc pc (.invokevirtual z) n 9001 0 w 0 :: es) σ L (vI x :: vR 200 e :: r) = ix x (zsN e) fun j => zev C G rt kr es σ L (vI (zsC e j) :: r) := by
  show gd (200 == 200 && Nat.ble (zcs r) 8) _ = _
  rw [hr]
  rfl
theorem x_copy {pc n w k i k1 i1 a b c : Nat} {sp dp m : Int32} {z : Nat} (hk : aT k = 0) (hk1 : aT k1 = 0) (hr : Nat.ble (zcs r) 8 = true) (hc : (decide (sp < 0 ∨ dp < 0 ∨ m < 0 ∨ aN k < sp.toNatClampNeg + m.toNatClampNeg ∨ aN k1 < dp.toNatClampNeg + m.toNatClampNeg) || !decide (sp.toNatClampNeg = a ∧ dp.toNatClampNeg = b ∧ m.toNatClampNeg = c)) = false) :
    zev C G rt kr (zEc pc (.invokestatic z) n 9004 0 w 0 :: es) σ L (vI m :: vI dp :: vR k1 i1 :: vI sp :: vR k i :: r) = zlet (cpI σ k i k1 i1 a b c) fun s => zev C G rt kr es s L r := by
  rw [Bool.or_eq_false_iff, decide_eq_false_iff_not, Bool.not_eq_false', decide_eq_true_eq] at hc
  show gd (aT k == 0 && aT k1 == 0 && Nat.ble (zcs r) 8) (if _ then none else zev C G rt kr es (cpI σ k i k1 i1 sp.toNatClampNeg dp.toNatClampNeg m.toNatClampNeg) L r) = _
  rw [if_neg hc.1, hk, hk1, hr, hc.2.1, hc.2.2.1, hc.2.2.2]
  rfl
theorem x_callV {pc n m b w u : Nat} {z : Nat} {av rest : List zAV} (hm : Nat.ble m 8999 = true) (h1 : (st.take b).reverse = av) (h2 : st.drop b = rest) (h3 : Nat.ble (zcs rest) 8 = true) : zev C G rt kr (zEc pc (.invokevirtual z) n m b w u :: es) σ L st = C m σ av fun σ v => zev C G rt kr es σ L (zpush u v rest) := by
  have hm := Nat.le_of_ble_eq_true hm
  show (if m = 9000 then _ else if m = 9001 then _ else gd (Nat.ble (zcs (st.drop b)) 8) (C m σ (st.take b).reverse fun σ v => zev C G rt kr es σ L (zpush u v (st.drop b)))) = _
  rw [if_neg (by omega), if_neg (by omega), h1, h2, h3]
  rfl
theorem x_callS {pc n m b w u : Nat} {z : Nat} {av rest : List zAV} (hm : Nat.ble m 8999 = true) (h1 : (st.take b).reverse = av) (h2 : st.drop b = rest) (h3 : Nat.ble (zcs rest) 8 = true) : zev C G rt kr (zEc pc (.invokestatic z) n m b w u :: es) σ L st = C m σ av fun σ v => zev C G rt kr es σ L (zpush u v rest) := by
  have hm := Nat.le_of_ble_eq_true hm
  show (if m = 9002 then _ else if m = 9003 then _ else if m = 9004 then _ else gd (Nat.ble (zcs (st.drop b)) 8) (C m σ (st.take b).reverse fun σ v => zev C G rt kr es σ L (zpush u v (st.drop b)))) = _
  rw [if_neg (by omega), if_neg (by omega), if_neg (by omega), h1, h2, h3]
  rfl
end
section
variable {G : Nat → zH → List zAV → List zAV → Option (zH × Int32)} {C : Nat → zH → List zAV → (zH → zAV → Option (zH × Int32)) → Option (zH × Int32)} {es : List zEnt} {σ : zH} {L : List zAV}
theorem x_iret {pc n : Nat} {x : Int32} : zev C G 0 krI (zE pc .ireturn n :: es) σ L [vI x] = some (σ, x) := rfl
theorem x_zret {pc n : Nat} {x : Int32} : zev C G 1 krI (zE pc .ireturn n :: es) σ L [vI x] = tv x (some (σ, x)) := rfl
end
theorem x_lret {C : Nat → zH → List zAV → (zH → zAV → Option (zH × Int64)) → Option (zH × Int64)} {G : Nat → zH → List zAV → List zAV → Option (zH × Int64)} {es : List zEnt} {σ : zH} {L : List zAV} {pc n : Nat} {x : Int64} : zev C G 3 krL (zE pc .lreturn n :: es) σ L [vL x] = some (σ, x) := rfl
theorem x_aret {C : Nat → zH → List zAV → (zH → zAV → Option (zH × Nat)) → Option (zH × Nat)} {G : Nat → zH → List zAV → List zAV → Option (zH × Nat)} {es : List zEnt} {σ : zH} {L : List zAV} {pc n : Nat} {e : Nat} : zev C G 4 krR (zE pc .areturn n :: es) σ L [vR 200 e] = some (σ, e) := rfl
theorem x_vret {C : Nat → zH → List zAV → (zH → zAV → Option zH) → Option zH} {G : Nat → zH → List zAV → List zAV → Option zH} {es : List zEnt} {σ : zH} {L : List zAV} {pc n : Nat} : zev C G 9 krV (zE pc .return_ n :: es) σ L [] = some σ := rfl
