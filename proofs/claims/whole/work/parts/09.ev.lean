/-! the walk of a row of instructions is the machine's (by program: wip/whole/gen_ev.py) -/
theorem zt_ldcwS {ρ : Type} {X : zX} {m : Nat} {kr : zH → zAV → Option ρ} {pc : Nat} {σ : zH} {L st : List zAV} {r : ρ} {N : zH → List zAV → List zAV → Option ρ} {z b : Nat} (hb : b < zNS) (ho : zsO b = (mY m).cls ∧ zsI b = z) (hdg : decode (mB m) pc = .ok ((.ldc_w z), 3)) (IH : ∀ σ L st r, N σ L st = some r → zGW X m kr (pc + 3) σ L st r) (h : N σ L (vR 200 b :: st) = some r) : zGW X m kr pc σ L st r :=
  (IH _ _ _ _ h).pure (fun hv => zvs_cons (Or.inr ⟨rfl, hb⟩) (zvs_st hv)) (fun p e9 s mi args below meth c H locs ls Q hC ha k => by
    have q := (hC.2.2.2.2.2.2.2.2 b hb).2.1
    rw [ho.1, ho.2] at q
    intro T hT X0
    obtain ⟨t, a1, b1⟩ := k T hT X0
    exact ⟨t, Stand.ldcStringW X0 hC.1 hC.2.2.2.2.1 q.1 q.2 (g := F0 mi pc ls (st.map (cV (zad X)))) rfl (by rw [hC.2.1]; exact hdg) t a1, b1⟩)
theorem zmk_cls {m : Nat} (hm : zmok m) : (zcl (mK m)).1 = (mY m).cls := by
  have h := hm.1
  unfold zmokA zkd at h
  simp only [Bool.and_eq_true, decide_eq_true_eq] at h
  exact h.1.1.2
theorem zfl_w {m a b z p : Nat} (hm : zmok m) (h1 : Nat.ble (p + 1) zNF = true) (h2 : (zfl p).2 = (mK m, z, a, b)) : Cond.fieldLink (mY m).cls z ((zcl a).2.1 b).1 ((zcl a).2.1 b).2.1 ((zcl a).2.1 b).2.2.1 ∈ lw_good := by
  have h := zfl_in (Nat.le_of_ble_eq_true h1)
  rw [h2] at h
  rw [← zmk_cls hm]
  exact h
theorem zml_w {m a z p : Nat} (hm : zmok m) (h1 : Nat.ble (p + 1) zNL = true) (h2 : (zml p).2 = (mK m, z, a)) : Cond.methodLink (mY m).cls z (mY a) ∈ lw_good := by
  have h := zml_in (Nat.le_of_ble_eq_true h1)
  rw [h2] at h
  rw [← zmk_cls hm]
  exact h
set_option maxRecDepth 100000 in
theorem zmok_l : (List.range zNM).all zmokA = true := by decide +kernel
theorem zmok_all (m : Nat) (h : m < zNM) : zmok m := ⟨List.all_eq_true.mp zmok_l m (List.mem_range.mpr h), h⟩
def zyLen : MethodName := ⟨"java/lang/String", "length", "()I"⟩
def zyCh : MethodName := ⟨"java/lang/String", "charAt", "(I)C"⟩
def zwLen : List Cond := Cond.code zyLen cJ0_length_8abf5 1 (some .int) :: lw_good
def zwCh : List Cond := Cond.code zyCh cJ0_charAt_5068e 2 (some .char) :: lw_good
def zJlen (X : zX) : Prop := ∀ e, e < zNS → ∀ σ, Met (zl X) zyLen zwLen (zrm 3) (va_Pc [.ref (zad X 200 e)] (zPU X σ)) (zQ X σ (vI (Int32.ofNat (zsN e)))) 0 0 (zA X)
def zJch (X : zX) : Prop := ∀ e, e < zNS → ∀ σ (j : Int32), vp_in j (zsN e) → Met (zl X) zyCh zwCh (zrm 5) (va_Pc [.ref (zad X 200 e), .int j] (zPU X σ)) (zQ X σ (vI (zsC e j.toNatClampNeg))) 0 0 (zA X)
set_option maxRecDepth 100000 in
theorem zJw : ([.instanceMethod zyLen, .selects "java/lang/String" zyLen zyLen, .initialized "java/lang/String", .code zyLen cJ0_length_8abf5 1 (some .int), .instanceMethod zyCh, .selects "java/lang/String" zyCh zyCh, .code zyCh cJ0_charAt_5068e 2 (some .char), .static Lib.Math.max.name, .initialized "java/lang/Math", .code Lib.Math.max.name Lib.Math.max.code 2 (some .int), .static Lib.Math.min.name, .code Lib.Math.min.name Lib.Math.min.code 2 (some .int), .native arraycopyName, .static arraycopyName, .initialized "java/lang/System"] : List Cond).all (fun w => lw_good.contains w) = true := by decide +kernel
theorem zJw_at (i : Nat) {w : Cond} (h : ([.instanceMethod zyLen, .selects "java/lang/String" zyLen zyLen, .initialized "java/lang/String", .code zyLen cJ0_length_8abf5 1 (some .int), .instanceMethod zyCh, .selects "java/lang/String" zyCh zyCh, .code zyCh cJ0_charAt_5068e 2 (some .char), .static Lib.Math.max.name, .initialized "java/lang/Math", .code Lib.Math.max.name Lib.Math.max.code 2 (some .int), .static Lib.Math.min.name, .code Lib.Math.min.name Lib.Math.min.code 2 (some .int), .native arraycopyName, .static arraycopyName, .initialized "java/lang/System"] : List Cond)[i]? = some w) : w ∈ lw_good := by
  have := List.all_eq_true.mp zJw w (List.mem_of_getElem? h)
  simpa using this
section
variable {ρ : Type} {X : zX} {m : Nat} {kr : zH → zAV → Option ρ} {pc : Nat} {σ : zH} {L st : List zAV} {r : ρ} {N : zH → List zAV → List zAV → Option ρ}
theorem zt_str {y : MethodName} {bytes : ByteArray} {maxL d n z e : Nat} {ret : Option FieldType} {v : zAV} {as t : List zAV} (hM : Met (zl X) y (Cond.code y bytes maxL ret :: lw_good) (zrm d) (va_Pc (Value.ref (zad X 200 e) :: as.map (cV (zad X))) (zPU X σ)) (zQ X σ v) 0 0 (zA X)) (hv : zval X v) (hv2 : v ≠ vU) (he : e < zNS)
    (hy : y.cls = "java/lang/String") (hin : Cond.instanceMethod y ∈ lw_good) (hse : Cond.selects "java/lang/String" y y ∈ lw_good) (hini : Cond.initialized "java/lang/String" ∈ lw_good) (hcode : Cond.code y bytes maxL ret ∈ lw_good) (hw : Cond.methodLink (mY m).cls z y ∈ lw_good) (hpd : (parseMethodDescriptor y.desc).map (fun d => d.parameters.length) = some n) (hml : maxL ≤ 11)
    (hd : d + 1 ≤ mD m) (hn : as.length = n) (hrest : zcs t ≤ 8) (hdg : decode (mB m) pc = .ok (.invokevirtual z, 3)) (IH : zGW X m kr (pc + 3) σ L (v :: t) r) : zGW X m kr pc σ L (as.reverse ++ vR 200 e :: t) r := by
  refine IH.step (fun hva => zvs_app (zvs_L hva) (zvs_cons hv (fun w hw => hva w (List.mem_append_right _ (List.mem_append_right _ (List.mem_cons_of_mem _ hw)))))) (fun hva p e9 s mi args below meth c H locs ls Q hC ha k => ?_)
  have hms : (as.reverse ++ vR 200 e :: t).map (cV (zad X)) = (as.map (cV (zad X))).reverse ++ .ref (zad X 200 e) :: t.map (cV (zad X)) := by
    rw [List.map_append, List.map_reverse]
    rfl
  rw [hms]
  have hcell := vk_recv (hC.2.2.2.2.2.2.2.2 e he).1 (Nat.zero_lt_one) ha.2.2
  have hrun := va_runV (p := p) (e := e9) (R := zrm (mD m)) (below := below) (meth := meth) (H := H) (locs := locs) (cells := 0) (slots := 0) (As := as.map (cV (zad X))) (rest := t.map (cV (zad X))) (b := zad X 200 e) (C := "java/lang/String") (n := n) (index := z) (g := F0 mi pc ls ((as.map (cV (zad X))).reverse ++ .ref (zad X 200 e) :: t.map (cV (zad X))))
    ⟨hC.1, hC.2.1, hC.2.2.1, hC.2.2.2.2.1, hC.2.2.2.2.2.1⟩ hM
    (cwV n hC.2.2.2.2.2.1 (fun w hw2 => by
      rcases List.mem_append.mp hw2 with q | q
      · have q2 : w = .methodLink (mY m).cls z y ∨ w = .instanceMethod y ∨ w = .selects "java/lang/String" y y ∨ w = .initialized "java/lang/String" := by simpa using q
        have q3 : w ∈ lw_good := by
          rcases q2 with rfl | rfl | rfl | rfl
          · exact hw
          · exact hin
          · exact hse
          · exact hini
        exact ⟨q3, zgood_all _ q3⟩
      · rcases List.mem_cons.mp q with rfl | q
        · exact ⟨hcode, zgood_all _ hcode⟩
        · exact ⟨q, zgood_all _ q⟩) rfl rfl rfl ⟨hy, by rw [hy]; decide, by rw [hy]; decide, hpd⟩ ⟨by rw [zrm_f, zrm_f]; exact hd, by rw [zrm_l, zrm_l]; omega⟩)
    ⟨zPU_blind X _ σ, hcell, fun U hU hW => ⟨rfl, va_K.moved hW.alike hC.2.2.2.2.2.2.2.1, by rw [hU]; exact ha.2.1, zStr_U hC.2.2.2.2.2.2.2.2 ha.2.2 hU hW⟩⟩
    rfl (by rw [List.length_map]; exact hn) ha.1.1 rfl (lv_room (by rw [zcs_sum]; exact hrest)) hdg ⟨Nat.zero_le _, Nat.zero_le _⟩
  refine zrun_go hrun ha.2.2 (fun H1 locs1 hP1 hS1 => ?_)
  rw [zrv_of hv2]
  exact k H1 locs1 ls ⟨ha.1, hP1, hS1⟩
def ztsok (pc : Nat) : Int → List (Int32 × Nat) → List Int → Bool
  | _, [], [] => true
  | lo, q :: qs, o :: os => decide (q.1.toInt = lo) && decide ((pc : Int) + o = (q.2 : Int)) && ztsok pc (lo + 1) qs os
  | _, _, _ => false
def zlsok (pc : Nat) : List (Int32 × Nat) → List (Int × Int) → Bool
  | [], [] => true
  | q :: qs, o :: os => decide (q.1.toInt = o.1) && decide ((pc : Int) + o.2 = (q.2 : Int)) && zlsok pc qs os
  | _, _ => false
theorem ztsw_spec {x : Int32} {go : Nat → Option ρ} {d pc : Nat} : ∀ (sw : List (Int32 × Nat)) (offs : List Int) (lo : Int), ztsok pc lo sw offs = true → zsw x go d sw = some r →
    (∃ (k : Nat) (off : Int) (t : Nat), offs[k]? = some off ∧ x.toInt = lo + k ∧ (pc : Int) + off = (t : Int) ∧ go t = some r) ∨ ((∀ k : Nat, k < offs.length → x.toInt ≠ lo + k) ∧ go d = some r)
  | [], [], lo, _, h => Or.inr ⟨fun k hk => absurd hk (Nat.not_lt_zero k), h⟩
  | q :: qs, o :: os, lo, hc, h => by
    rw [ztsok, Bool.and_eq_true, Bool.and_eq_true, decide_eq_true_eq, decide_eq_true_eq] at hc
    have h : (if x = q.1 then go q.2 else zsw x go d qs) = some r := h
    by_cases hx : x = q.1
    · rw [if_pos hx] at h
      exact Or.inl ⟨0, o, q.2, rfl, by rw [hx, hc.1.1]; simp, hc.1.2, h⟩
    · rw [if_neg hx] at h
      rcases ztsw_spec qs os (lo + 1) hc.2 h with ⟨k, off, t, h1, h2, h3, h4⟩ | ⟨h1, h2⟩
      · exact Or.inl ⟨k + 1, off, t, h1, by rw [h2]; omega, h3, h4⟩
      · refine Or.inr ⟨fun k hk => ?_, h2⟩
        cases k with
        | zero =>
          intro e
          exact hx (Int32.toInt_inj.mp (by rw [e, hc.1.1]; simp))
        | succ k =>
          have := h1 k (by simpa using hk)
          intro e
          exact this (by rw [e]; omega)
  | [], _ :: _, _, hc, _ => by cases hc
  | _ :: _, [], _, hc, _ => by cases hc
theorem zlsw_spec {x : Int32} {go : Nat → Option ρ} {d pc : Nat} {dd : Int} (hd : (pc : Int) + dd = (d : Int)) : ∀ (sw : List (Int32 × Nat)) (ps : List (Int × Int)), zlsok pc sw ps = true → zsw x go d sw = some r → ∃ t : Nat, (pc : Int) + Op.lookupswitch.offset ps dd x.toInt = (t : Int) ∧ go t = some r
  | [], [], _, h => ⟨d, hd, h⟩
  | q :: qs, o :: os, hc, h => by
    rw [zlsok, Bool.and_eq_true, Bool.and_eq_true, decide_eq_true_eq, decide_eq_true_eq] at hc
    have h : (if x = q.1 then go q.2 else zsw x go d qs) = some r := h
    rw [show (o :: os) = ((o.1, o.2) :: os) from rfl, Op.lookupswitch.offset_cons]
    by_cases hx : x = q.1
    · rw [if_pos hx] at h
      rw [if_pos (by rw [hx, hc.1.1])]
      exact ⟨q.2, hc.1.2, h⟩
    · rw [if_neg hx] at h
      rw [if_neg (fun e => hx (Int32.toInt_inj.mp (by rw [← e, hc.1.1])))]
      exact zlsw_spec hd qs os hc.2 h
  | [], _ :: _, hc, _ => by cases hc
  | _ :: _, [], hc, _ => by cases hc
theorem zt_tsw {d lo hi : Int} {offs : Array Int} {len a : Nat} {sw : List (Int32 × Nat)} {G : Nat → zH → List zAV → List zAV → Option ρ} (HG : ∀ t σ L st r, G t σ L st = some r → zGW X m kr t σ L st r) (hhi : hi + 1 = lo + offs.toList.length) (hok : ztsok pc lo sw offs.toList = true) (hd : (pc : Int) + d = (a : Int))
    (hdg : decode (mB m) pc = .ok (.tableswitch d lo hi offs, len)) (h : (zpI st fun x r => zsw x (fun t => G t σ L r) a sw) = some r) : zGW X m kr pc σ L st r := by
  obtain ⟨x, t, rfl, h1⟩ := zpI_some h
  rcases ztsw_spec sw offs.toList lo hok h1 with ⟨k, off, tg, g1, g2, g3, g4⟩ | ⟨g1, g2⟩
  · have hk : k < offs.toList.length := (List.getElem?_eq_some_iff.mp g1).1
    refine (HG _ _ _ _ _ g4).pure (fun hv => zvs_st (zvs_tl hv)) (fun p e9 s mi args below meth c H locs ls Q hC ha kk => ?_)
    exact lv_tableIn (off := off) (tgt := tg) hC.1 hC.2.1 hdg (by omega) (by omega) (by rw [show (x.toInt - lo).toNat = k by omega, ← Array.getElem?_toList]; exact g1) g3 kk
  · refine (HG _ _ _ _ _ g2).pure (fun hv => zvs_st (zvs_tl hv)) (fun p e9 s mi args below meth c H locs ls Q hC ha kk => ?_)
    refine lv_tableOut (tgt := a) hC.1 hC.2.1 hdg ?_ hd kk
    by_cases hx : x.toInt < lo
    · exact Or.inl hx
    · by_cases hx2 : hi < x.toInt
      · exact Or.inr hx2
      · exact absurd (show x.toInt = lo + (((x.toInt - lo).toNat : Nat) : Int) by omega) (g1 (x.toInt - lo).toNat (by omega))
theorem zt_lsw {d : Int} {ps : Array (Int × Int)} {len a : Nat} {sw : List (Int32 × Nat)} {G : Nat → zH → List zAV → List zAV → Option ρ} (HG : ∀ t σ L st r, G t σ L st = some r → zGW X m kr t σ L st r) (hp : (ps.toList.zip (ps.toList.drop 1)).all (fun (a, next) => a.1 < next.1) = true) (hok : zlsok pc sw ps.toList = true) (hd : (pc : Int) + d = (a : Int))
    (hdg : decode (mB m) pc = .ok (.lookupswitch d ps, len)) (h : (zpI st fun x r => zsw x (fun t => G t σ L r) a sw) = some r) : zGW X m kr pc σ L st r := by
  obtain ⟨x, t, rfl, h1⟩ := zpI_some h
  obtain ⟨tg, h2, h3⟩ := zlsw_spec hd sw ps.toList hok h1
  refine (HG _ _ _ _ _ h3).pure (fun hv => zvs_st (zvs_tl hv)) (fun p e9 s mi args below meth c H locs ls Q hC ha kk => ?_)
  exact lv_lookup (tgt := tg) hC.1 hC.2.1 hdg hp rfl h2 kk
end
def zchE (m : Nat) (e : zEnt) : Bool := decide (decode (mB m) e.1 = .ok (e.2.1, e.2.2.1)) && (match e.2.1 with
    | .iconst z => decide (e.2.2.1 = 1) && decide (Int32.ofInt z = eK e)
    | .bipush z => decide (e.2.2.1 = 2) && decide ((Int8.ofInt z).toInt32 = eK e)
    | .sipush z => decide (e.2.2.1 = 3) && decide ((Int16.ofInt z).toInt32 = eK e)
    | .lconst z => decide (e.2.2.1 = 1) && decide (Int64.ofNat z.val = eJ e)
    | .ldc z => decide (e.2.2.1 = 2) && (bif (eA e) == 0 then zwd (eW e) (.constant (mY m).cls z (eK e)) else decide ((eB e) < zNS) && decide (zsO (eB e) = (mY m).cls ∧ zsI (eB e) = z))
    | .ldc_w z => decide (e.2.2.1 = 3) && (bif (eA e) == 0 then zwd (eW e) (.constant (mY m).cls z (eK e)) else decide ((eB e) < zNS) && decide (zsO (eB e) = (mY m).cls ∧ zsI (eB e) = z))
    | .ldc2_w z => decide (e.2.2.1 = 3) && zwd (eW e) (.constantLong (mY m).cls z (eJ e))
    | .iload_n _ => decide (e.2.2.1 = 1)
    | .lload_n _ => decide (e.2.2.1 = 1)
    | .aload_n _ => decide (e.2.2.1 = 1)
    | .iload _ => decide (e.2.2.1 = 2)
    | .lload _ => decide (e.2.2.1 = 2)
    | .aload _ => decide (e.2.2.1 = 2)
    | .istore_n n => decide (e.2.2.1 = 1) && decide (n.val < mL m)
    | .astore_n n => decide (e.2.2.1 = 1) && decide (n.val < mL m)
    | .istore n => decide (e.2.2.1 = 2) && decide (n < mL m)
    | .astore n => decide (e.2.2.1 = 2) && decide (n < mL m)
    | .lstore_n n => decide (e.2.2.1 = 1) && decide (n.val + 1 < mL m)
    | .lstore n => decide (e.2.2.1 = 2) && decide (n + 1 < mL m)
    | .iinc n z => decide (e.2.2.1 = 3) && decide (n < mL m) && decide (Int32.ofInt z = eK e)
    | .iadd => decide (e.2.2.1 = 1)
    | .isub => decide (e.2.2.1 = 1)
    | .imul => decide (e.2.2.1 = 1)
    | .iand => decide (e.2.2.1 = 1)
    | .ior => decide (e.2.2.1 = 1)
    | .ixor => decide (e.2.2.1 = 1)
    | .ishl => decide (e.2.2.1 = 1)
    | .ishr => decide (e.2.2.1 = 1)
    | .iushr => decide (e.2.2.1 = 1)
    | .idiv => decide (e.2.2.1 = 1)
    | .irem => decide (e.2.2.1 = 1)
    | .ladd => decide (e.2.2.1 = 1)
    | .lsub => decide (e.2.2.1 = 1)
    | .lmul => decide (e.2.2.1 = 1)
    | .land => decide (e.2.2.1 = 1)
    | .lor => decide (e.2.2.1 = 1)
    | .ldiv => decide (e.2.2.1 = 1)
    | .lrem => decide (e.2.2.1 = 1)
    | .lcmp => decide (e.2.2.1 = 1)
    | .i2l => decide (e.2.2.1 = 1)
    | .l2i => decide (e.2.2.1 = 1)
    | .i2b => decide (e.2.2.1 = 1)
    | .dup => decide (e.2.2.1 = 1)
    | .pop => decide (e.2.2.1 = 1)
    | .dup2 => decide (e.2.2.1 = 1)
    | .iaload => decide (e.2.2.1 = 1)
    | .baload => decide (e.2.2.1 = 1)
    | .laload => decide (e.2.2.1 = 1)
    | .aaload => decide (e.2.2.1 = 1)
    | .arraylength => decide (e.2.2.1 = 1)
    | .iastore => decide (e.2.2.1 = 1)
    | .bastore => decide (e.2.2.1 = 1)
    | .lastore => decide (e.2.2.1 = 1)
    | .goto off => decide (e.2.2.1 = 3) && decide ((e.1 : Int) + off = ((eA e) : Int))
    | .ifCond _ off => decide (e.2.2.1 = 3) && decide ((e.1 : Int) + off = ((eA e) : Int))
    | .if_icmp _ off => decide (e.2.2.1 = 3) && decide ((e.1 : Int) + off = ((eA e) : Int))
    | .tableswitch d lo hi offs => decide (hi + 1 = lo + offs.toList.length) && ztsok e.1 lo (eS e) offs.toList && decide ((e.1 : Int) + d = ((eA e) : Int))
    | .lookupswitch d ps => ((ps.toList.zip (ps.toList.drop 1)).all fun (a, next) => a.1 < next.1) && zlsok e.1 (eS e) ps.toList && decide ((e.1 : Int) + d = ((eA e) : Int))
    | .getfield z => decide (e.2.2.1 = 3) && decide ((eA e) < 12) && decide ((eB e) < zfN (eA e)) && (Nat.ble ((eW e) + 1) zNF && decide ((zfl (eW e)).2 = (mK m, z, (eA e), (eB e)))) && decide (fC (eA e) (eB e) = eF e)
    | .putfield z => decide (e.2.2.1 = 3) && decide ((eA e) < 12) && decide ((eB e) < zfN (eA e)) && !((zcl (eA e)).2.1 (eB e)).2.2.2 && (Nat.ble ((eW e) + 1) zNF && decide ((zfl (eW e)).2 = (mK m, z, (eA e), (eB e)))) && (match fC (eA e) (eB e) with
        | (0, 0, _) => decide (zcty (eA e) (eB e) = .int)
        | (0, 1, _) => decide (zcty (eA e) (eB e) = .boolean)
        | (3, k', _) => decide (k' ≠ 200) && decide (zcty (eA e) (eB e) = .object (zcl k').1)
        | _ => false) && decide (fC (eA e) (eB e) = eF e)
    | .invokevirtual z => decide (e.2.2.1 = 3) && (if (eA e) = 9000 then decide (4 ≤ mD m) && zwd (eW e) (.methodLink (mY m).cls z zyLen)
        else if (eA e) = 9001 then decide (6 ≤ mD m) && zwd (eW e) (.methodLink (mY m).cls z zyCh)
        else Nat.ble ((eA e) + 1) zNM && decide (mD (eA e) + 1 ≤ mD m) && decide ((eU e) = 0 ↔ mRc (eA e) ≠ 9) && (Nat.ble ((eW e) + 1) zNL && decide ((zml (eW e)).2 = (mK m, z, (eA e)))) && decide (mSt (eA e) = 0) && decide ((eB e) = mP (eA e) + 1))
    | .invokestatic z => decide (e.2.2.1 = 3) && (if (eA e) = 9002 then decide (1 ≤ mD m) && zwd (eW e) (.methodLink (mY m).cls z Lib.Math.max.name)
        else if (eA e) = 9003 then decide (1 ≤ mD m) && zwd (eW e) (.methodLink (mY m).cls z Lib.Math.min.name)
        else if (eA e) = 9004 then decide (1 ≤ mD m) && zwd (eW e) (.methodLink (mY m).cls z arraycopyName)
        else Nat.ble ((eA e) + 1) zNM && decide (mD (eA e) + 1 ≤ mD m) && decide ((eU e) = 0 ↔ mRc (eA e) ≠ 9) && (Nat.ble ((eW e) + 1) zNL && decide ((zml (eW e)).2 = (mK m, z, (eA e)))) && decide (mSt (eA e) ≠ 0) && decide ((eB e) = mP (eA e)))
    | .ireturn => decide (e.2.2.1 = 1)
    | .lreturn => decide (e.2.2.1 = 1)
    | .areturn => decide (e.2.2.1 = 1)
    | .return_ => decide (e.2.2.1 = 1)
    | _ => false)
def ztm (i : Instr) : Bool := match i with
  | .goto _ | .ireturn | .lreturn | .areturn | .return_ | .tableswitch .. | .lookupswitch .. => true
  | _ => false
def zisn (i : Instr) : Bool := match i with
  | .nop => true
  | _ => false
def zchL (m : Nat) : Nat → List zEnt → Bool
  | _, [] => true
  | pc, e :: es => decide (e.1 = pc) && (zisn e.2.1 || (zchE m e && (ztm e.2.1 || zchL m (pc + e.2.2.1) es)))
/-- all that a walk in method m rests on -/
def zHY {ρ : Type} (X : zX) (m : Nat) (C : Nat → zH → List zAV → (zH → zAV → Option ρ) → Option ρ) : Prop := zOK X ∧ (∀ q ∈ zdm X, q.1 < 200 ∧ q.2 < 2 ^ 31) ∧ zJlen X ∧ zJch X ∧ zCS X C ∧ zmok m
theorem zmok_R {m : Nat} (h0 : zmok m) : (mRc m = 0 → mR m = some .int) ∧ (mRc m = 1 → mR m = some .boolean) ∧ (mRc m = 3 → mR m = some .long) ∧ (mRc m = 4 → mR m = some (.object "java/lang/String")) ∧ (mRc m = 9 → mR m = none) := by
  have h := h0.1
  unfold zmokA at h
  simp only [Bool.and_eq_true] at h
  have h2 := h.2
  refine ⟨fun e => ?_, fun e => ?_, fun e => ?_, fun e => ?_, fun e => ?_⟩ <;> rw [e] at h2 <;> simpa using h2
section
variable {ρ : Type} {X : zX} {m : Nat} {kr : zH → zAV → Option ρ} {C : Nat → zH → List zAV → (zH → zAV → Option ρ) → Option ρ} {G : Nat → zH → List zAV → List zAV → Option ρ}
theorem zv_iconst (hY : zHY X m C) (HG : ∀ t σ L st r, G t σ L st = some r → zGW X m kr t σ L st r) {es : List zEnt} {pc n a b ww u : Nat} {cf : Nat × Nat × Nat} {k32 : Int32} {k64 : Int64} {sw : List (Int32 × Nat)} {z : Int} (hc : zchE m (pc, (.iconst z), n, (a, b, ww, u), cf, k32, k64, sw) = true) (IH : ztm (.iconst z) = false → ∀ σ L st r, zev C G (mRc m) kr es σ L st = some r → zGW X m kr (pc + n) σ L st r) {σ : zH} {L st : List zAV} {r : ρ} (h : zev C G (mRc m) kr ((pc, (.iconst z), n, (a, b, ww, u), cf, k32, k64, sw) :: es) σ L st = some r) : zGW X m kr pc σ L st r := by
  obtain ⟨hX, hbd, hJl, hJc, hCS, hm⟩ := hY
  unfold zev at h
  unfold zchE at hc
  dsimp only [eA, eB, eW, eU, eF, eK, eJ, eS] at hc h
  rw [Bool.and_eq_true, decide_eq_true_eq] at hc
  obtain ⟨hdg, hc⟩ := hc
  simp only [Bool.and_eq_true, decide_eq_true_eq] at hc
  obtain ⟨hn1, hz⟩ := hc
  subst hn1
  exact zt_iconst hz hdg (IH rfl) h
theorem zv_bipush (hY : zHY X m C) (HG : ∀ t σ L st r, G t σ L st = some r → zGW X m kr t σ L st r) {es : List zEnt} {pc n a b ww u : Nat} {cf : Nat × Nat × Nat} {k32 : Int32} {k64 : Int64} {sw : List (Int32 × Nat)} {z : Int} (hc : zchE m (pc, (.bipush z), n, (a, b, ww, u), cf, k32, k64, sw) = true) (IH : ztm (.bipush z) = false → ∀ σ L st r, zev C G (mRc m) kr es σ L st = some r → zGW X m kr (pc + n) σ L st r) {σ : zH} {L st : List zAV} {r : ρ} (h : zev C G (mRc m) kr ((pc, (.bipush z), n, (a, b, ww, u), cf, k32, k64, sw) :: es) σ L st = some r) : zGW X m kr pc σ L st r := by
  obtain ⟨hX, hbd, hJl, hJc, hCS, hm⟩ := hY
  unfold zev at h
  unfold zchE at hc
  dsimp only [eA, eB, eW, eU, eF, eK, eJ, eS] at hc h
  rw [Bool.and_eq_true, decide_eq_true_eq] at hc
  obtain ⟨hdg, hc⟩ := hc
  simp only [Bool.and_eq_true, decide_eq_true_eq] at hc
  obtain ⟨hn1, hz⟩ := hc
  subst hn1
  exact zt_bipush hz hdg (IH rfl) h
theorem zv_sipush (hY : zHY X m C) (HG : ∀ t σ L st r, G t σ L st = some r → zGW X m kr t σ L st r) {es : List zEnt} {pc n a b ww u : Nat} {cf : Nat × Nat × Nat} {k32 : Int32} {k64 : Int64} {sw : List (Int32 × Nat)} {z : Int} (hc : zchE m (pc, (.sipush z), n, (a, b, ww, u), cf, k32, k64, sw) = true) (IH : ztm (.sipush z) = false → ∀ σ L st r, zev C G (mRc m) kr es σ L st = some r → zGW X m kr (pc + n) σ L st r) {σ : zH} {L st : List zAV} {r : ρ} (h : zev C G (mRc m) kr ((pc, (.sipush z), n, (a, b, ww, u), cf, k32, k64, sw) :: es) σ L st = some r) : zGW X m kr pc σ L st r := by
  obtain ⟨hX, hbd, hJl, hJc, hCS, hm⟩ := hY
  unfold zev at h
  unfold zchE at hc
  dsimp only [eA, eB, eW, eU, eF, eK, eJ, eS] at hc h
  rw [Bool.and_eq_true, decide_eq_true_eq] at hc
  obtain ⟨hdg, hc⟩ := hc
  simp only [Bool.and_eq_true, decide_eq_true_eq] at hc
  obtain ⟨hn1, hz⟩ := hc
  subst hn1
  exact zt_sipush hz hdg (IH rfl) h
theorem zv_lconst (hY : zHY X m C) (HG : ∀ t σ L st r, G t σ L st = some r → zGW X m kr t σ L st r) {es : List zEnt} {pc n a b ww u : Nat} {cf : Nat × Nat × Nat} {k32 : Int32} {k64 : Int64} {sw : List (Int32 × Nat)} {z : Fin 2} (hc : zchE m (pc, (.lconst z), n, (a, b, ww, u), cf, k32, k64, sw) = true) (IH : ztm (.lconst z) = false → ∀ σ L st r, zev C G (mRc m) kr es σ L st = some r → zGW X m kr (pc + n) σ L st r) {σ : zH} {L st : List zAV} {r : ρ} (h : zev C G (mRc m) kr ((pc, (.lconst z), n, (a, b, ww, u), cf, k32, k64, sw) :: es) σ L st = some r) : zGW X m kr pc σ L st r := by
  obtain ⟨hX, hbd, hJl, hJc, hCS, hm⟩ := hY
  unfold zev at h
  unfold zchE at hc
  dsimp only [eA, eB, eW, eU, eF, eK, eJ, eS] at hc h
  rw [Bool.and_eq_true, decide_eq_true_eq] at hc
  obtain ⟨hdg, hc⟩ := hc
  simp only [Bool.and_eq_true, decide_eq_true_eq] at hc
  obtain ⟨hn1, hz⟩ := hc
  subst hn1
  exact zt_lconst hz hdg (IH rfl) h
theorem zv_ldc (hY : zHY X m C) (HG : ∀ t σ L st r, G t σ L st = some r → zGW X m kr t σ L st r) {es : List zEnt} {pc n a b ww u : Nat} {cf : Nat × Nat × Nat} {k32 : Int32} {k64 : Int64} {sw : List (Int32 × Nat)} {z : Nat} (hc : zchE m (pc, (.ldc z), n, (a, b, ww, u), cf, k32, k64, sw) = true) (IH : ztm (.ldc z) = false → ∀ σ L st r, zev C G (mRc m) kr es σ L st = some r → zGW X m kr (pc + n) σ L st r) {σ : zH} {L st : List zAV} {r : ρ} (h : zev C G (mRc m) kr ((pc, (.ldc z), n, (a, b, ww, u), cf, k32, k64, sw) :: es) σ L st = some r) : zGW X m kr pc σ L st r := by
  obtain ⟨hX, hbd, hJl, hJc, hCS, hm⟩ := hY
  unfold zev at h
  unfold zchE at hc
  dsimp only [eA, eB, eW, eU, eF, eK, eJ, eS] at hc h
  rw [Bool.and_eq_true, decide_eq_true_eq] at hc
  obtain ⟨hdg, hc⟩ := hc
  rw [Bool.and_eq_true, decide_eq_true_eq] at hc
  obtain ⟨hn1, hz⟩ := hc
  subst hn1
  cases ha : a == 0 with
  | true =>
    rw [ha] at hz h
    exact zt_ldcI (zwd_in hz) hdg (IH rfl) h
  | false =>
    rw [ha] at hz h
    have hz : (decide (b < zNS) && decide (zsO b = (mY m).cls ∧ zsI b = z)) = true := hz
    rw [Bool.and_eq_true, decide_eq_true_eq, decide_eq_true_eq] at hz
    exact zt_ldcS hz.1 hz.2 hdg (IH rfl) h
theorem zv_ldc_w (hY : zHY X m C) (HG : ∀ t σ L st r, G t σ L st = some r → zGW X m kr t σ L st r) {es : List zEnt} {pc n a b ww u : Nat} {cf : Nat × Nat × Nat} {k32 : Int32} {k64 : Int64} {sw : List (Int32 × Nat)} {z : Nat} (hc : zchE m (pc, (.ldc_w z), n, (a, b, ww, u), cf, k32, k64, sw) = true) (IH : ztm (.ldc_w z) = false → ∀ σ L st r, zev C G (mRc m) kr es σ L st = some r → zGW X m kr (pc + n) σ L st r) {σ : zH} {L st : List zAV} {r : ρ} (h : zev C G (mRc m) kr ((pc, (.ldc_w z), n, (a, b, ww, u), cf, k32, k64, sw) :: es) σ L st = some r) : zGW X m kr pc σ L st r := by
  obtain ⟨hX, hbd, hJl, hJc, hCS, hm⟩ := hY
  unfold zev at h
  unfold zchE at hc
  dsimp only [eA, eB, eW, eU, eF, eK, eJ, eS] at hc h
  rw [Bool.and_eq_true, decide_eq_true_eq] at hc
  obtain ⟨hdg, hc⟩ := hc
  rw [Bool.and_eq_true, decide_eq_true_eq] at hc
  obtain ⟨hn1, hz⟩ := hc
  subst hn1
  cases ha : a == 0 with
  | true =>
    rw [ha] at hz h
    exact zt_ldcwI (zwd_in hz) hdg (IH rfl) h
  | false =>
    rw [ha] at hz h
    have hz : (decide (b < zNS) && decide (zsO b = (mY m).cls ∧ zsI b = z)) = true := hz
    rw [Bool.and_eq_true, decide_eq_true_eq, decide_eq_true_eq] at hz
    exact zt_ldcwS hz.1 hz.2 hdg (IH rfl) h
theorem zv_ldc2_w (hY : zHY X m C) (HG : ∀ t σ L st r, G t σ L st = some r → zGW X m kr t σ L st r) {es : List zEnt} {pc n a b ww u : Nat} {cf : Nat × Nat × Nat} {k32 : Int32} {k64 : Int64} {sw : List (Int32 × Nat)} {z : Nat} (hc : zchE m (pc, (.ldc2_w z), n, (a, b, ww, u), cf, k32, k64, sw) = true) (IH : ztm (.ldc2_w z) = false → ∀ σ L st r, zev C G (mRc m) kr es σ L st = some r → zGW X m kr (pc + n) σ L st r) {σ : zH} {L st : List zAV} {r : ρ} (h : zev C G (mRc m) kr ((pc, (.ldc2_w z), n, (a, b, ww, u), cf, k32, k64, sw) :: es) σ L st = some r) : zGW X m kr pc σ L st r := by
  obtain ⟨hX, hbd, hJl, hJc, hCS, hm⟩ := hY
  unfold zev at h
  unfold zchE at hc
  dsimp only [eA, eB, eW, eU, eF, eK, eJ, eS] at hc h
  rw [Bool.and_eq_true, decide_eq_true_eq] at hc
  obtain ⟨hdg, hc⟩ := hc
  simp only [Bool.and_eq_true, decide_eq_true_eq] at hc
  obtain ⟨hn1, hz⟩ := hc
  subst hn1
  exact zt_ldc2 (zwd_in hz) hdg (IH rfl) h
theorem zv_iload_n (hY : zHY X m C) (HG : ∀ t σ L st r, G t σ L st = some r → zGW X m kr t σ L st r) {es : List zEnt} {pc n a b ww u : Nat} {cf : Nat × Nat × Nat} {k32 : Int32} {k64 : Int64} {sw : List (Int32 × Nat)} {z : Fin 4} (hc : zchE m (pc, (.iload_n z), n, (a, b, ww, u), cf, k32, k64, sw) = true) (IH : ztm (.iload_n z) = false → ∀ σ L st r, zev C G (mRc m) kr es σ L st = some r → zGW X m kr (pc + n) σ L st r) {σ : zH} {L st : List zAV} {r : ρ} (h : zev C G (mRc m) kr ((pc, (.iload_n z), n, (a, b, ww, u), cf, k32, k64, sw) :: es) σ L st = some r) : zGW X m kr pc σ L st r := by
  obtain ⟨hX, hbd, hJl, hJc, hCS, hm⟩ := hY
  unfold zev at h
  unfold zchE at hc
  dsimp only [eA, eB, eW, eU, eF, eK, eJ, eS] at hc h
  rw [Bool.and_eq_true, decide_eq_true_eq] at hc
  obtain ⟨hdg, hc⟩ := hc
  simp only [Bool.and_eq_true, decide_eq_true_eq] at hc
  subst hc
  exact zt_iload_n hdg (IH rfl) h
theorem zv_lload_n (hY : zHY X m C) (HG : ∀ t σ L st r, G t σ L st = some r → zGW X m kr t σ L st r) {es : List zEnt} {pc n a b ww u : Nat} {cf : Nat × Nat × Nat} {k32 : Int32} {k64 : Int64} {sw : List (Int32 × Nat)} {z : Fin 4} (hc : zchE m (pc, (.lload_n z), n, (a, b, ww, u), cf, k32, k64, sw) = true) (IH : ztm (.lload_n z) = false → ∀ σ L st r, zev C G (mRc m) kr es σ L st = some r → zGW X m kr (pc + n) σ L st r) {σ : zH} {L st : List zAV} {r : ρ} (h : zev C G (mRc m) kr ((pc, (.lload_n z), n, (a, b, ww, u), cf, k32, k64, sw) :: es) σ L st = some r) : zGW X m kr pc σ L st r := by
  obtain ⟨hX, hbd, hJl, hJc, hCS, hm⟩ := hY
  unfold zev at h
  unfold zchE at hc
  dsimp only [eA, eB, eW, eU, eF, eK, eJ, eS] at hc h
  rw [Bool.and_eq_true, decide_eq_true_eq] at hc
  obtain ⟨hdg, hc⟩ := hc
  simp only [Bool.and_eq_true, decide_eq_true_eq] at hc
  subst hc
  exact zt_lload_n hdg (IH rfl) h
theorem zv_aload_n (hY : zHY X m C) (HG : ∀ t σ L st r, G t σ L st = some r → zGW X m kr t σ L st r) {es : List zEnt} {pc n a b ww u : Nat} {cf : Nat × Nat × Nat} {k32 : Int32} {k64 : Int64} {sw : List (Int32 × Nat)} {z : Fin 4} (hc : zchE m (pc, (.aload_n z), n, (a, b, ww, u), cf, k32, k64, sw) = true) (IH : ztm (.aload_n z) = false → ∀ σ L st r, zev C G (mRc m) kr es σ L st = some r → zGW X m kr (pc + n) σ L st r) {σ : zH} {L st : List zAV} {r : ρ} (h : zev C G (mRc m) kr ((pc, (.aload_n z), n, (a, b, ww, u), cf, k32, k64, sw) :: es) σ L st = some r) : zGW X m kr pc σ L st r := by
  obtain ⟨hX, hbd, hJl, hJc, hCS, hm⟩ := hY
  unfold zev at h
  unfold zchE at hc
  dsimp only [eA, eB, eW, eU, eF, eK, eJ, eS] at hc h
  rw [Bool.and_eq_true, decide_eq_true_eq] at hc
  obtain ⟨hdg, hc⟩ := hc
  simp only [Bool.and_eq_true, decide_eq_true_eq] at hc
  subst hc
  exact zt_aload_n hdg (IH rfl) h
theorem zv_iload (hY : zHY X m C) (HG : ∀ t σ L st r, G t σ L st = some r → zGW X m kr t σ L st r) {es : List zEnt} {pc n a b ww u : Nat} {cf : Nat × Nat × Nat} {k32 : Int32} {k64 : Int64} {sw : List (Int32 × Nat)} {z : Nat} (hc : zchE m (pc, (.iload z), n, (a, b, ww, u), cf, k32, k64, sw) = true) (IH : ztm (.iload z) = false → ∀ σ L st r, zev C G (mRc m) kr es σ L st = some r → zGW X m kr (pc + n) σ L st r) {σ : zH} {L st : List zAV} {r : ρ} (h : zev C G (mRc m) kr ((pc, (.iload z), n, (a, b, ww, u), cf, k32, k64, sw) :: es) σ L st = some r) : zGW X m kr pc σ L st r := by
  obtain ⟨hX, hbd, hJl, hJc, hCS, hm⟩ := hY
  unfold zev at h
  unfold zchE at hc
  dsimp only [eA, eB, eW, eU, eF, eK, eJ, eS] at hc h
  rw [Bool.and_eq_true, decide_eq_true_eq] at hc
  obtain ⟨hdg, hc⟩ := hc
  simp only [Bool.and_eq_true, decide_eq_true_eq] at hc
  subst hc
  exact zt_iload hdg (IH rfl) h
theorem zv_lload (hY : zHY X m C) (HG : ∀ t σ L st r, G t σ L st = some r → zGW X m kr t σ L st r) {es : List zEnt} {pc n a b ww u : Nat} {cf : Nat × Nat × Nat} {k32 : Int32} {k64 : Int64} {sw : List (Int32 × Nat)} {z : Nat} (hc : zchE m (pc, (.lload z), n, (a, b, ww, u), cf, k32, k64, sw) = true) (IH : ztm (.lload z) = false → ∀ σ L st r, zev C G (mRc m) kr es σ L st = some r → zGW X m kr (pc + n) σ L st r) {σ : zH} {L st : List zAV} {r : ρ} (h : zev C G (mRc m) kr ((pc, (.lload z), n, (a, b, ww, u), cf, k32, k64, sw) :: es) σ L st = some r) : zGW X m kr pc σ L st r := by
  obtain ⟨hX, hbd, hJl, hJc, hCS, hm⟩ := hY
  unfold zev at h
  unfold zchE at hc
  dsimp only [eA, eB, eW, eU, eF, eK, eJ, eS] at hc h
  rw [Bool.and_eq_true, decide_eq_true_eq] at hc
  obtain ⟨hdg, hc⟩ := hc
  simp only [Bool.and_eq_true, decide_eq_true_eq] at hc
  subst hc
  exact zt_lload hdg (IH rfl) h
theorem zv_aload (hY : zHY X m C) (HG : ∀ t σ L st r, G t σ L st = some r → zGW X m kr t σ L st r) {es : List zEnt} {pc n a b ww u : Nat} {cf : Nat × Nat × Nat} {k32 : Int32} {k64 : Int64} {sw : List (Int32 × Nat)} {z : Nat} (hc : zchE m (pc, (.aload z), n, (a, b, ww, u), cf, k32, k64, sw) = true) (IH : ztm (.aload z) = false → ∀ σ L st r, zev C G (mRc m) kr es σ L st = some r → zGW X m kr (pc + n) σ L st r) {σ : zH} {L st : List zAV} {r : ρ} (h : zev C G (mRc m) kr ((pc, (.aload z), n, (a, b, ww, u), cf, k32, k64, sw) :: es) σ L st = some r) : zGW X m kr pc σ L st r := by
  obtain ⟨hX, hbd, hJl, hJc, hCS, hm⟩ := hY
  unfold zev at h
  unfold zchE at hc
  dsimp only [eA, eB, eW, eU, eF, eK, eJ, eS] at hc h
  rw [Bool.and_eq_true, decide_eq_true_eq] at hc
  obtain ⟨hdg, hc⟩ := hc
  simp only [Bool.and_eq_true, decide_eq_true_eq] at hc
  subst hc
  exact zt_aload hdg (IH rfl) h
theorem zv_istore_n (hY : zHY X m C) (HG : ∀ t σ L st r, G t σ L st = some r → zGW X m kr t σ L st r) {es : List zEnt} {pc n a b ww u : Nat} {cf : Nat × Nat × Nat} {k32 : Int32} {k64 : Int64} {sw : List (Int32 × Nat)} {z : Fin 4} (hc : zchE m (pc, (.istore_n z), n, (a, b, ww, u), cf, k32, k64, sw) = true) (IH : ztm (.istore_n z) = false → ∀ σ L st r, zev C G (mRc m) kr es σ L st = some r → zGW X m kr (pc + n) σ L st r) {σ : zH} {L st : List zAV} {r : ρ} (h : zev C G (mRc m) kr ((pc, (.istore_n z), n, (a, b, ww, u), cf, k32, k64, sw) :: es) σ L st = some r) : zGW X m kr pc σ L st r := by
  obtain ⟨hX, hbd, hJl, hJc, hCS, hm⟩ := hY
  unfold zev at h
  unfold zchE at hc
  dsimp only [eA, eB, eW, eU, eF, eK, eJ, eS] at hc h
  rw [Bool.and_eq_true, decide_eq_true_eq] at hc
  obtain ⟨hdg, hc⟩ := hc
  simp only [Bool.and_eq_true, decide_eq_true_eq] at hc
  obtain ⟨hn1, hz⟩ := hc
  subst hn1
  exact zt_istore_n hz hdg (IH rfl) h
theorem zv_astore_n (hY : zHY X m C) (HG : ∀ t σ L st r, G t σ L st = some r → zGW X m kr t σ L st r) {es : List zEnt} {pc n a b ww u : Nat} {cf : Nat × Nat × Nat} {k32 : Int32} {k64 : Int64} {sw : List (Int32 × Nat)} {z : Fin 4} (hc : zchE m (pc, (.astore_n z), n, (a, b, ww, u), cf, k32, k64, sw) = true) (IH : ztm (.astore_n z) = false → ∀ σ L st r, zev C G (mRc m) kr es σ L st = some r → zGW X m kr (pc + n) σ L st r) {σ : zH} {L st : List zAV} {r : ρ} (h : zev C G (mRc m) kr ((pc, (.astore_n z), n, (a, b, ww, u), cf, k32, k64, sw) :: es) σ L st = some r) : zGW X m kr pc σ L st r := by
  obtain ⟨hX, hbd, hJl, hJc, hCS, hm⟩ := hY
  unfold zev at h
  unfold zchE at hc
  dsimp only [eA, eB, eW, eU, eF, eK, eJ, eS] at hc h
  rw [Bool.and_eq_true, decide_eq_true_eq] at hc
  obtain ⟨hdg, hc⟩ := hc
  simp only [Bool.and_eq_true, decide_eq_true_eq] at hc
  obtain ⟨hn1, hz⟩ := hc
  subst hn1
  exact zt_astore_n hz hdg (IH rfl) h
theorem zv_lstore_n (hY : zHY X m C) (HG : ∀ t σ L st r, G t σ L st = some r → zGW X m kr t σ L st r) {es : List zEnt} {pc n a b ww u : Nat} {cf : Nat × Nat × Nat} {k32 : Int32} {k64 : Int64} {sw : List (Int32 × Nat)} {z : Fin 4} (hc : zchE m (pc, (.lstore_n z), n, (a, b, ww, u), cf, k32, k64, sw) = true) (IH : ztm (.lstore_n z) = false → ∀ σ L st r, zev C G (mRc m) kr es σ L st = some r → zGW X m kr (pc + n) σ L st r) {σ : zH} {L st : List zAV} {r : ρ} (h : zev C G (mRc m) kr ((pc, (.lstore_n z), n, (a, b, ww, u), cf, k32, k64, sw) :: es) σ L st = some r) : zGW X m kr pc σ L st r := by
  obtain ⟨hX, hbd, hJl, hJc, hCS, hm⟩ := hY
  unfold zev at h
  unfold zchE at hc
  dsimp only [eA, eB, eW, eU, eF, eK, eJ, eS] at hc h
  rw [Bool.and_eq_true, decide_eq_true_eq] at hc
  obtain ⟨hdg, hc⟩ := hc
  simp only [Bool.and_eq_true, decide_eq_true_eq] at hc
  obtain ⟨hn1, hz⟩ := hc
  subst hn1
  exact zt_lstore_n hz hdg (IH rfl) h
theorem zv_istore (hY : zHY X m C) (HG : ∀ t σ L st r, G t σ L st = some r → zGW X m kr t σ L st r) {es : List zEnt} {pc n a b ww u : Nat} {cf : Nat × Nat × Nat} {k32 : Int32} {k64 : Int64} {sw : List (Int32 × Nat)} {z : Nat} (hc : zchE m (pc, (.istore z), n, (a, b, ww, u), cf, k32, k64, sw) = true) (IH : ztm (.istore z) = false → ∀ σ L st r, zev C G (mRc m) kr es σ L st = some r → zGW X m kr (pc + n) σ L st r) {σ : zH} {L st : List zAV} {r : ρ} (h : zev C G (mRc m) kr ((pc, (.istore z), n, (a, b, ww, u), cf, k32, k64, sw) :: es) σ L st = some r) : zGW X m kr pc σ L st r := by
  obtain ⟨hX, hbd, hJl, hJc, hCS, hm⟩ := hY
  unfold zev at h
  unfold zchE at hc
  dsimp only [eA, eB, eW, eU, eF, eK, eJ, eS] at hc h
  rw [Bool.and_eq_true, decide_eq_true_eq] at hc
  obtain ⟨hdg, hc⟩ := hc
  simp only [Bool.and_eq_true, decide_eq_true_eq] at hc
  obtain ⟨hn1, hz⟩ := hc
  subst hn1
  exact zt_istore hz hdg (IH rfl) h
theorem zv_astore (hY : zHY X m C) (HG : ∀ t σ L st r, G t σ L st = some r → zGW X m kr t σ L st r) {es : List zEnt} {pc n a b ww u : Nat} {cf : Nat × Nat × Nat} {k32 : Int32} {k64 : Int64} {sw : List (Int32 × Nat)} {z : Nat} (hc : zchE m (pc, (.astore z), n, (a, b, ww, u), cf, k32, k64, sw) = true) (IH : ztm (.astore z) = false → ∀ σ L st r, zev C G (mRc m) kr es σ L st = some r → zGW X m kr (pc + n) σ L st r) {σ : zH} {L st : List zAV} {r : ρ} (h : zev C G (mRc m) kr ((pc, (.astore z), n, (a, b, ww, u), cf, k32, k64, sw) :: es) σ L st = some r) : zGW X m kr pc σ L st r := by
  obtain ⟨hX, hbd, hJl, hJc, hCS, hm⟩ := hY
  unfold zev at h
  unfold zchE at hc
  dsimp only [eA, eB, eW, eU, eF, eK, eJ, eS] at hc h
  rw [Bool.and_eq_true, decide_eq_true_eq] at hc
  obtain ⟨hdg, hc⟩ := hc
  simp only [Bool.and_eq_true, decide_eq_true_eq] at hc
  obtain ⟨hn1, hz⟩ := hc
  subst hn1
  exact zt_astore hz hdg (IH rfl) h
theorem zv_lstore (hY : zHY X m C) (HG : ∀ t σ L st r, G t σ L st = some r → zGW X m kr t σ L st r) {es : List zEnt} {pc n a b ww u : Nat} {cf : Nat × Nat × Nat} {k32 : Int32} {k64 : Int64} {sw : List (Int32 × Nat)} {z : Nat} (hc : zchE m (pc, (.lstore z), n, (a, b, ww, u), cf, k32, k64, sw) = true) (IH : ztm (.lstore z) = false → ∀ σ L st r, zev C G (mRc m) kr es σ L st = some r → zGW X m kr (pc + n) σ L st r) {σ : zH} {L st : List zAV} {r : ρ} (h : zev C G (mRc m) kr ((pc, (.lstore z), n, (a, b, ww, u), cf, k32, k64, sw) :: es) σ L st = some r) : zGW X m kr pc σ L st r := by
  obtain ⟨hX, hbd, hJl, hJc, hCS, hm⟩ := hY
  unfold zev at h
  unfold zchE at hc
  dsimp only [eA, eB, eW, eU, eF, eK, eJ, eS] at hc h
  rw [Bool.and_eq_true, decide_eq_true_eq] at hc
  obtain ⟨hdg, hc⟩ := hc
  simp only [Bool.and_eq_true, decide_eq_true_eq] at hc
  obtain ⟨hn1, hz⟩ := hc
  subst hn1
  exact zt_lstore hz hdg (IH rfl) h
theorem zv_iinc (hY : zHY X m C) (HG : ∀ t σ L st r, G t σ L st = some r → zGW X m kr t σ L st r) {es : List zEnt} {pc n a b ww u : Nat} {cf : Nat × Nat × Nat} {k32 : Int32} {k64 : Int64} {sw : List (Int32 × Nat)} {q : Nat} {z : Int} (hc : zchE m (pc, (.iinc q z), n, (a, b, ww, u), cf, k32, k64, sw) = true) (IH : ztm (.iinc q z) = false → ∀ σ L st r, zev C G (mRc m) kr es σ L st = some r → zGW X m kr (pc + n) σ L st r) {σ : zH} {L st : List zAV} {r : ρ} (h : zev C G (mRc m) kr ((pc, (.iinc q z), n, (a, b, ww, u), cf, k32, k64, sw) :: es) σ L st = some r) : zGW X m kr pc σ L st r := by
  obtain ⟨hX, hbd, hJl, hJc, hCS, hm⟩ := hY
  unfold zev at h
  unfold zchE at hc
  dsimp only [eA, eB, eW, eU, eF, eK, eJ, eS] at hc h
  rw [Bool.and_eq_true, decide_eq_true_eq] at hc
  obtain ⟨hdg, hc⟩ := hc
  simp only [Bool.and_eq_true, decide_eq_true_eq] at hc
  obtain ⟨⟨hn1, hz⟩, hz2⟩ := hc
  subst hn1
  exact zt_iinc hz hz2 hdg (IH rfl) h
theorem zv_iadd (hY : zHY X m C) (HG : ∀ t σ L st r, G t σ L st = some r → zGW X m kr t σ L st r) {es : List zEnt} {pc n a b ww u : Nat} {cf : Nat × Nat × Nat} {k32 : Int32} {k64 : Int64} {sw : List (Int32 × Nat)}  (hc : zchE m (pc, .iadd, n, (a, b, ww, u), cf, k32, k64, sw) = true) (IH : ztm .iadd = false → ∀ σ L st r, zev C G (mRc m) kr es σ L st = some r → zGW X m kr (pc + n) σ L st r) {σ : zH} {L st : List zAV} {r : ρ} (h : zev C G (mRc m) kr ((pc, .iadd, n, (a, b, ww, u), cf, k32, k64, sw) :: es) σ L st = some r) : zGW X m kr pc σ L st r := by
  obtain ⟨hX, hbd, hJl, hJc, hCS, hm⟩ := hY
  unfold zev at h
  unfold zchE at hc
  dsimp only [eA, eB, eW, eU, eF, eK, eJ, eS] at hc h
  rw [Bool.and_eq_true, decide_eq_true_eq] at hc
  obtain ⟨hdg, hc⟩ := hc
  simp only [Bool.and_eq_true, decide_eq_true_eq] at hc
  subst hc
  exact zt_iadd hdg (IH rfl) h
theorem zv_isub (hY : zHY X m C) (HG : ∀ t σ L st r, G t σ L st = some r → zGW X m kr t σ L st r) {es : List zEnt} {pc n a b ww u : Nat} {cf : Nat × Nat × Nat} {k32 : Int32} {k64 : Int64} {sw : List (Int32 × Nat)}  (hc : zchE m (pc, .isub, n, (a, b, ww, u), cf, k32, k64, sw) = true) (IH : ztm .isub = false → ∀ σ L st r, zev C G (mRc m) kr es σ L st = some r → zGW X m kr (pc + n) σ L st r) {σ : zH} {L st : List zAV} {r : ρ} (h : zev C G (mRc m) kr ((pc, .isub, n, (a, b, ww, u), cf, k32, k64, sw) :: es) σ L st = some r) : zGW X m kr pc σ L st r := by
  obtain ⟨hX, hbd, hJl, hJc, hCS, hm⟩ := hY
  unfold zev at h
  unfold zchE at hc
  dsimp only [eA, eB, eW, eU, eF, eK, eJ, eS] at hc h
  rw [Bool.and_eq_true, decide_eq_true_eq] at hc
  obtain ⟨hdg, hc⟩ := hc
  simp only [Bool.and_eq_true, decide_eq_true_eq] at hc
  subst hc
  exact zt_isub hdg (IH rfl) h
theorem zv_imul (hY : zHY X m C) (HG : ∀ t σ L st r, G t σ L st = some r → zGW X m kr t σ L st r) {es : List zEnt} {pc n a b ww u : Nat} {cf : Nat × Nat × Nat} {k32 : Int32} {k64 : Int64} {sw : List (Int32 × Nat)}  (hc : zchE m (pc, .imul, n, (a, b, ww, u), cf, k32, k64, sw) = true) (IH : ztm .imul = false → ∀ σ L st r, zev C G (mRc m) kr es σ L st = some r → zGW X m kr (pc + n) σ L st r) {σ : zH} {L st : List zAV} {r : ρ} (h : zev C G (mRc m) kr ((pc, .imul, n, (a, b, ww, u), cf, k32, k64, sw) :: es) σ L st = some r) : zGW X m kr pc σ L st r := by
  obtain ⟨hX, hbd, hJl, hJc, hCS, hm⟩ := hY
  unfold zev at h
  unfold zchE at hc
  dsimp only [eA, eB, eW, eU, eF, eK, eJ, eS] at hc h
  rw [Bool.and_eq_true, decide_eq_true_eq] at hc
  obtain ⟨hdg, hc⟩ := hc
  simp only [Bool.and_eq_true, decide_eq_true_eq] at hc
  subst hc
  exact zt_imul hdg (IH rfl) h
theorem zv_iand (hY : zHY X m C) (HG : ∀ t σ L st r, G t σ L st = some r → zGW X m kr t σ L st r) {es : List zEnt} {pc n a b ww u : Nat} {cf : Nat × Nat × Nat} {k32 : Int32} {k64 : Int64} {sw : List (Int32 × Nat)}  (hc : zchE m (pc, .iand, n, (a, b, ww, u), cf, k32, k64, sw) = true) (IH : ztm .iand = false → ∀ σ L st r, zev C G (mRc m) kr es σ L st = some r → zGW X m kr (pc + n) σ L st r) {σ : zH} {L st : List zAV} {r : ρ} (h : zev C G (mRc m) kr ((pc, .iand, n, (a, b, ww, u), cf, k32, k64, sw) :: es) σ L st = some r) : zGW X m kr pc σ L st r := by
  obtain ⟨hX, hbd, hJl, hJc, hCS, hm⟩ := hY
  unfold zev at h
  unfold zchE at hc
  dsimp only [eA, eB, eW, eU, eF, eK, eJ, eS] at hc h
  rw [Bool.and_eq_true, decide_eq_true_eq] at hc
  obtain ⟨hdg, hc⟩ := hc
  simp only [Bool.and_eq_true, decide_eq_true_eq] at hc
  subst hc
  exact zt_iand hdg (IH rfl) h
theorem zv_ior (hY : zHY X m C) (HG : ∀ t σ L st r, G t σ L st = some r → zGW X m kr t σ L st r) {es : List zEnt} {pc n a b ww u : Nat} {cf : Nat × Nat × Nat} {k32 : Int32} {k64 : Int64} {sw : List (Int32 × Nat)}  (hc : zchE m (pc, .ior, n, (a, b, ww, u), cf, k32, k64, sw) = true) (IH : ztm .ior = false → ∀ σ L st r, zev C G (mRc m) kr es σ L st = some r → zGW X m kr (pc + n) σ L st r) {σ : zH} {L st : List zAV} {r : ρ} (h : zev C G (mRc m) kr ((pc, .ior, n, (a, b, ww, u), cf, k32, k64, sw) :: es) σ L st = some r) : zGW X m kr pc σ L st r := by
  obtain ⟨hX, hbd, hJl, hJc, hCS, hm⟩ := hY
  unfold zev at h
  unfold zchE at hc
  dsimp only [eA, eB, eW, eU, eF, eK, eJ, eS] at hc h
  rw [Bool.and_eq_true, decide_eq_true_eq] at hc
  obtain ⟨hdg, hc⟩ := hc
  simp only [Bool.and_eq_true, decide_eq_true_eq] at hc
  subst hc
  exact zt_ior hdg (IH rfl) h
theorem zv_ixor (hY : zHY X m C) (HG : ∀ t σ L st r, G t σ L st = some r → zGW X m kr t σ L st r) {es : List zEnt} {pc n a b ww u : Nat} {cf : Nat × Nat × Nat} {k32 : Int32} {k64 : Int64} {sw : List (Int32 × Nat)}  (hc : zchE m (pc, .ixor, n, (a, b, ww, u), cf, k32, k64, sw) = true) (IH : ztm .ixor = false → ∀ σ L st r, zev C G (mRc m) kr es σ L st = some r → zGW X m kr (pc + n) σ L st r) {σ : zH} {L st : List zAV} {r : ρ} (h : zev C G (mRc m) kr ((pc, .ixor, n, (a, b, ww, u), cf, k32, k64, sw) :: es) σ L st = some r) : zGW X m kr pc σ L st r := by
  obtain ⟨hX, hbd, hJl, hJc, hCS, hm⟩ := hY
  unfold zev at h
  unfold zchE at hc
  dsimp only [eA, eB, eW, eU, eF, eK, eJ, eS] at hc h
  rw [Bool.and_eq_true, decide_eq_true_eq] at hc
  obtain ⟨hdg, hc⟩ := hc
  simp only [Bool.and_eq_true, decide_eq_true_eq] at hc
  subst hc
  exact zt_ixor hdg (IH rfl) h
theorem zv_ishl (hY : zHY X m C) (HG : ∀ t σ L st r, G t σ L st = some r → zGW X m kr t σ L st r) {es : List zEnt} {pc n a b ww u : Nat} {cf : Nat × Nat × Nat} {k32 : Int32} {k64 : Int64} {sw : List (Int32 × Nat)}  (hc : zchE m (pc, .ishl, n, (a, b, ww, u), cf, k32, k64, sw) = true) (IH : ztm .ishl = false → ∀ σ L st r, zev C G (mRc m) kr es σ L st = some r → zGW X m kr (pc + n) σ L st r) {σ : zH} {L st : List zAV} {r : ρ} (h : zev C G (mRc m) kr ((pc, .ishl, n, (a, b, ww, u), cf, k32, k64, sw) :: es) σ L st = some r) : zGW X m kr pc σ L st r := by
  obtain ⟨hX, hbd, hJl, hJc, hCS, hm⟩ := hY
  unfold zev at h
  unfold zchE at hc
  dsimp only [eA, eB, eW, eU, eF, eK, eJ, eS] at hc h
  rw [Bool.and_eq_true, decide_eq_true_eq] at hc
  obtain ⟨hdg, hc⟩ := hc
  simp only [Bool.and_eq_true, decide_eq_true_eq] at hc
  subst hc
  exact zt_ishl hdg (IH rfl) h
theorem zv_ishr (hY : zHY X m C) (HG : ∀ t σ L st r, G t σ L st = some r → zGW X m kr t σ L st r) {es : List zEnt} {pc n a b ww u : Nat} {cf : Nat × Nat × Nat} {k32 : Int32} {k64 : Int64} {sw : List (Int32 × Nat)}  (hc : zchE m (pc, .ishr, n, (a, b, ww, u), cf, k32, k64, sw) = true) (IH : ztm .ishr = false → ∀ σ L st r, zev C G (mRc m) kr es σ L st = some r → zGW X m kr (pc + n) σ L st r) {σ : zH} {L st : List zAV} {r : ρ} (h : zev C G (mRc m) kr ((pc, .ishr, n, (a, b, ww, u), cf, k32, k64, sw) :: es) σ L st = some r) : zGW X m kr pc σ L st r := by
  obtain ⟨hX, hbd, hJl, hJc, hCS, hm⟩ := hY
  unfold zev at h
  unfold zchE at hc
  dsimp only [eA, eB, eW, eU, eF, eK, eJ, eS] at hc h
  rw [Bool.and_eq_true, decide_eq_true_eq] at hc
  obtain ⟨hdg, hc⟩ := hc
  simp only [Bool.and_eq_true, decide_eq_true_eq] at hc
  subst hc
  exact zt_ishr hdg (IH rfl) h
theorem zv_iushr (hY : zHY X m C) (HG : ∀ t σ L st r, G t σ L st = some r → zGW X m kr t σ L st r) {es : List zEnt} {pc n a b ww u : Nat} {cf : Nat × Nat × Nat} {k32 : Int32} {k64 : Int64} {sw : List (Int32 × Nat)}  (hc : zchE m (pc, .iushr, n, (a, b, ww, u), cf, k32, k64, sw) = true) (IH : ztm .iushr = false → ∀ σ L st r, zev C G (mRc m) kr es σ L st = some r → zGW X m kr (pc + n) σ L st r) {σ : zH} {L st : List zAV} {r : ρ} (h : zev C G (mRc m) kr ((pc, .iushr, n, (a, b, ww, u), cf, k32, k64, sw) :: es) σ L st = some r) : zGW X m kr pc σ L st r := by
  obtain ⟨hX, hbd, hJl, hJc, hCS, hm⟩ := hY
  unfold zev at h
  unfold zchE at hc
  dsimp only [eA, eB, eW, eU, eF, eK, eJ, eS] at hc h
  rw [Bool.and_eq_true, decide_eq_true_eq] at hc
  obtain ⟨hdg, hc⟩ := hc
  simp only [Bool.and_eq_true, decide_eq_true_eq] at hc
  subst hc
  exact zt_iushr hdg (IH rfl) h
theorem zv_idiv (hY : zHY X m C) (HG : ∀ t σ L st r, G t σ L st = some r → zGW X m kr t σ L st r) {es : List zEnt} {pc n a b ww u : Nat} {cf : Nat × Nat × Nat} {k32 : Int32} {k64 : Int64} {sw : List (Int32 × Nat)}  (hc : zchE m (pc, .idiv, n, (a, b, ww, u), cf, k32, k64, sw) = true) (IH : ztm .idiv = false → ∀ σ L st r, zev C G (mRc m) kr es σ L st = some r → zGW X m kr (pc + n) σ L st r) {σ : zH} {L st : List zAV} {r : ρ} (h : zev C G (mRc m) kr ((pc, .idiv, n, (a, b, ww, u), cf, k32, k64, sw) :: es) σ L st = some r) : zGW X m kr pc σ L st r := by
  obtain ⟨hX, hbd, hJl, hJc, hCS, hm⟩ := hY
  unfold zev at h
  unfold zchE at hc
  dsimp only [eA, eB, eW, eU, eF, eK, eJ, eS] at hc h
  rw [Bool.and_eq_true, decide_eq_true_eq] at hc
  obtain ⟨hdg, hc⟩ := hc
  simp only [Bool.and_eq_true, decide_eq_true_eq] at hc
  subst hc
  exact zt_idiv hdg (IH rfl) h
theorem zv_irem (hY : zHY X m C) (HG : ∀ t σ L st r, G t σ L st = some r → zGW X m kr t σ L st r) {es : List zEnt} {pc n a b ww u : Nat} {cf : Nat × Nat × Nat} {k32 : Int32} {k64 : Int64} {sw : List (Int32 × Nat)}  (hc : zchE m (pc, .irem, n, (a, b, ww, u), cf, k32, k64, sw) = true) (IH : ztm .irem = false → ∀ σ L st r, zev C G (mRc m) kr es σ L st = some r → zGW X m kr (pc + n) σ L st r) {σ : zH} {L st : List zAV} {r : ρ} (h : zev C G (mRc m) kr ((pc, .irem, n, (a, b, ww, u), cf, k32, k64, sw) :: es) σ L st = some r) : zGW X m kr pc σ L st r := by
  obtain ⟨hX, hbd, hJl, hJc, hCS, hm⟩ := hY
  unfold zev at h
  unfold zchE at hc
  dsimp only [eA, eB, eW, eU, eF, eK, eJ, eS] at hc h
  rw [Bool.and_eq_true, decide_eq_true_eq] at hc
  obtain ⟨hdg, hc⟩ := hc
  simp only [Bool.and_eq_true, decide_eq_true_eq] at hc
  subst hc
  exact zt_irem hdg (IH rfl) h
theorem zv_ladd (hY : zHY X m C) (HG : ∀ t σ L st r, G t σ L st = some r → zGW X m kr t σ L st r) {es : List zEnt} {pc n a b ww u : Nat} {cf : Nat × Nat × Nat} {k32 : Int32} {k64 : Int64} {sw : List (Int32 × Nat)}  (hc : zchE m (pc, .ladd, n, (a, b, ww, u), cf, k32, k64, sw) = true) (IH : ztm .ladd = false → ∀ σ L st r, zev C G (mRc m) kr es σ L st = some r → zGW X m kr (pc + n) σ L st r) {σ : zH} {L st : List zAV} {r : ρ} (h : zev C G (mRc m) kr ((pc, .ladd, n, (a, b, ww, u), cf, k32, k64, sw) :: es) σ L st = some r) : zGW X m kr pc σ L st r := by
  obtain ⟨hX, hbd, hJl, hJc, hCS, hm⟩ := hY
  unfold zev at h
  unfold zchE at hc
  dsimp only [eA, eB, eW, eU, eF, eK, eJ, eS] at hc h
  rw [Bool.and_eq_true, decide_eq_true_eq] at hc
  obtain ⟨hdg, hc⟩ := hc
  simp only [Bool.and_eq_true, decide_eq_true_eq] at hc
  subst hc
  exact zt_ladd hdg (IH rfl) h
theorem zv_lsub (hY : zHY X m C) (HG : ∀ t σ L st r, G t σ L st = some r → zGW X m kr t σ L st r) {es : List zEnt} {pc n a b ww u : Nat} {cf : Nat × Nat × Nat} {k32 : Int32} {k64 : Int64} {sw : List (Int32 × Nat)}  (hc : zchE m (pc, .lsub, n, (a, b, ww, u), cf, k32, k64, sw) = true) (IH : ztm .lsub = false → ∀ σ L st r, zev C G (mRc m) kr es σ L st = some r → zGW X m kr (pc + n) σ L st r) {σ : zH} {L st : List zAV} {r : ρ} (h : zev C G (mRc m) kr ((pc, .lsub, n, (a, b, ww, u), cf, k32, k64, sw) :: es) σ L st = some r) : zGW X m kr pc σ L st r := by
  obtain ⟨hX, hbd, hJl, hJc, hCS, hm⟩ := hY
  unfold zev at h
  unfold zchE at hc
  dsimp only [eA, eB, eW, eU, eF, eK, eJ, eS] at hc h
  rw [Bool.and_eq_true, decide_eq_true_eq] at hc
  obtain ⟨hdg, hc⟩ := hc
  simp only [Bool.and_eq_true, decide_eq_true_eq] at hc
  subst hc
  exact zt_lsub hdg (IH rfl) h
theorem zv_lmul (hY : zHY X m C) (HG : ∀ t σ L st r, G t σ L st = some r → zGW X m kr t σ L st r) {es : List zEnt} {pc n a b ww u : Nat} {cf : Nat × Nat × Nat} {k32 : Int32} {k64 : Int64} {sw : List (Int32 × Nat)}  (hc : zchE m (pc, .lmul, n, (a, b, ww, u), cf, k32, k64, sw) = true) (IH : ztm .lmul = false → ∀ σ L st r, zev C G (mRc m) kr es σ L st = some r → zGW X m kr (pc + n) σ L st r) {σ : zH} {L st : List zAV} {r : ρ} (h : zev C G (mRc m) kr ((pc, .lmul, n, (a, b, ww, u), cf, k32, k64, sw) :: es) σ L st = some r) : zGW X m kr pc σ L st r := by
  obtain ⟨hX, hbd, hJl, hJc, hCS, hm⟩ := hY
  unfold zev at h
  unfold zchE at hc
  dsimp only [eA, eB, eW, eU, eF, eK, eJ, eS] at hc h
  rw [Bool.and_eq_true, decide_eq_true_eq] at hc
  obtain ⟨hdg, hc⟩ := hc
  simp only [Bool.and_eq_true, decide_eq_true_eq] at hc
  subst hc
  exact zt_lmul hdg (IH rfl) h
theorem zv_land (hY : zHY X m C) (HG : ∀ t σ L st r, G t σ L st = some r → zGW X m kr t σ L st r) {es : List zEnt} {pc n a b ww u : Nat} {cf : Nat × Nat × Nat} {k32 : Int32} {k64 : Int64} {sw : List (Int32 × Nat)}  (hc : zchE m (pc, .land, n, (a, b, ww, u), cf, k32, k64, sw) = true) (IH : ztm .land = false → ∀ σ L st r, zev C G (mRc m) kr es σ L st = some r → zGW X m kr (pc + n) σ L st r) {σ : zH} {L st : List zAV} {r : ρ} (h : zev C G (mRc m) kr ((pc, .land, n, (a, b, ww, u), cf, k32, k64, sw) :: es) σ L st = some r) : zGW X m kr pc σ L st r := by
  obtain ⟨hX, hbd, hJl, hJc, hCS, hm⟩ := hY
  unfold zev at h
  unfold zchE at hc
  dsimp only [eA, eB, eW, eU, eF, eK, eJ, eS] at hc h
  rw [Bool.and_eq_true, decide_eq_true_eq] at hc
  obtain ⟨hdg, hc⟩ := hc
  simp only [Bool.and_eq_true, decide_eq_true_eq] at hc
  subst hc
  exact zt_land hdg (IH rfl) h
theorem zv_lor (hY : zHY X m C) (HG : ∀ t σ L st r, G t σ L st = some r → zGW X m kr t σ L st r) {es : List zEnt} {pc n a b ww u : Nat} {cf : Nat × Nat × Nat} {k32 : Int32} {k64 : Int64} {sw : List (Int32 × Nat)}  (hc : zchE m (pc, .lor, n, (a, b, ww, u), cf, k32, k64, sw) = true) (IH : ztm .lor = false → ∀ σ L st r, zev C G (mRc m) kr es σ L st = some r → zGW X m kr (pc + n) σ L st r) {σ : zH} {L st : List zAV} {r : ρ} (h : zev C G (mRc m) kr ((pc, .lor, n, (a, b, ww, u), cf, k32, k64, sw) :: es) σ L st = some r) : zGW X m kr pc σ L st r := by
  obtain ⟨hX, hbd, hJl, hJc, hCS, hm⟩ := hY
  unfold zev at h
  unfold zchE at hc
  dsimp only [eA, eB, eW, eU, eF, eK, eJ, eS] at hc h
  rw [Bool.and_eq_true, decide_eq_true_eq] at hc
  obtain ⟨hdg, hc⟩ := hc
  simp only [Bool.and_eq_true, decide_eq_true_eq] at hc
  subst hc
  exact zt_lor hdg (IH rfl) h
theorem zv_ldiv (hY : zHY X m C) (HG : ∀ t σ L st r, G t σ L st = some r → zGW X m kr t σ L st r) {es : List zEnt} {pc n a b ww u : Nat} {cf : Nat × Nat × Nat} {k32 : Int32} {k64 : Int64} {sw : List (Int32 × Nat)}  (hc : zchE m (pc, .ldiv, n, (a, b, ww, u), cf, k32, k64, sw) = true) (IH : ztm .ldiv = false → ∀ σ L st r, zev C G (mRc m) kr es σ L st = some r → zGW X m kr (pc + n) σ L st r) {σ : zH} {L st : List zAV} {r : ρ} (h : zev C G (mRc m) kr ((pc, .ldiv, n, (a, b, ww, u), cf, k32, k64, sw) :: es) σ L st = some r) : zGW X m kr pc σ L st r := by
  obtain ⟨hX, hbd, hJl, hJc, hCS, hm⟩ := hY
  unfold zev at h
  unfold zchE at hc
  dsimp only [eA, eB, eW, eU, eF, eK, eJ, eS] at hc h
  rw [Bool.and_eq_true, decide_eq_true_eq] at hc
  obtain ⟨hdg, hc⟩ := hc
  simp only [Bool.and_eq_true, decide_eq_true_eq] at hc
  subst hc
  exact zt_ldiv hdg (IH rfl) h
theorem zv_lrem (hY : zHY X m C) (HG : ∀ t σ L st r, G t σ L st = some r → zGW X m kr t σ L st r) {es : List zEnt} {pc n a b ww u : Nat} {cf : Nat × Nat × Nat} {k32 : Int32} {k64 : Int64} {sw : List (Int32 × Nat)}  (hc : zchE m (pc, .lrem, n, (a, b, ww, u), cf, k32, k64, sw) = true) (IH : ztm .lrem = false → ∀ σ L st r, zev C G (mRc m) kr es σ L st = some r → zGW X m kr (pc + n) σ L st r) {σ : zH} {L st : List zAV} {r : ρ} (h : zev C G (mRc m) kr ((pc, .lrem, n, (a, b, ww, u), cf, k32, k64, sw) :: es) σ L st = some r) : zGW X m kr pc σ L st r := by
  obtain ⟨hX, hbd, hJl, hJc, hCS, hm⟩ := hY
  unfold zev at h
  unfold zchE at hc
  dsimp only [eA, eB, eW, eU, eF, eK, eJ, eS] at hc h
  rw [Bool.and_eq_true, decide_eq_true_eq] at hc
  obtain ⟨hdg, hc⟩ := hc
  simp only [Bool.and_eq_true, decide_eq_true_eq] at hc
  subst hc
  exact zt_lrem hdg (IH rfl) h
theorem zv_lcmp (hY : zHY X m C) (HG : ∀ t σ L st r, G t σ L st = some r → zGW X m kr t σ L st r) {es : List zEnt} {pc n a b ww u : Nat} {cf : Nat × Nat × Nat} {k32 : Int32} {k64 : Int64} {sw : List (Int32 × Nat)}  (hc : zchE m (pc, .lcmp, n, (a, b, ww, u), cf, k32, k64, sw) = true) (IH : ztm .lcmp = false → ∀ σ L st r, zev C G (mRc m) kr es σ L st = some r → zGW X m kr (pc + n) σ L st r) {σ : zH} {L st : List zAV} {r : ρ} (h : zev C G (mRc m) kr ((pc, .lcmp, n, (a, b, ww, u), cf, k32, k64, sw) :: es) σ L st = some r) : zGW X m kr pc σ L st r := by
  obtain ⟨hX, hbd, hJl, hJc, hCS, hm⟩ := hY
  unfold zev at h
  unfold zchE at hc
  dsimp only [eA, eB, eW, eU, eF, eK, eJ, eS] at hc h
  rw [Bool.and_eq_true, decide_eq_true_eq] at hc
  obtain ⟨hdg, hc⟩ := hc
  simp only [Bool.and_eq_true, decide_eq_true_eq] at hc
  subst hc
  exact zt_lcmp hdg (IH rfl) h
theorem zv_i2l (hY : zHY X m C) (HG : ∀ t σ L st r, G t σ L st = some r → zGW X m kr t σ L st r) {es : List zEnt} {pc n a b ww u : Nat} {cf : Nat × Nat × Nat} {k32 : Int32} {k64 : Int64} {sw : List (Int32 × Nat)}  (hc : zchE m (pc, .i2l, n, (a, b, ww, u), cf, k32, k64, sw) = true) (IH : ztm .i2l = false → ∀ σ L st r, zev C G (mRc m) kr es σ L st = some r → zGW X m kr (pc + n) σ L st r) {σ : zH} {L st : List zAV} {r : ρ} (h : zev C G (mRc m) kr ((pc, .i2l, n, (a, b, ww, u), cf, k32, k64, sw) :: es) σ L st = some r) : zGW X m kr pc σ L st r := by
  obtain ⟨hX, hbd, hJl, hJc, hCS, hm⟩ := hY
  unfold zev at h
  unfold zchE at hc
  dsimp only [eA, eB, eW, eU, eF, eK, eJ, eS] at hc h
  rw [Bool.and_eq_true, decide_eq_true_eq] at hc
  obtain ⟨hdg, hc⟩ := hc
  simp only [Bool.and_eq_true, decide_eq_true_eq] at hc
  subst hc
  exact zt_i2l hdg (IH rfl) h
theorem zv_l2i (hY : zHY X m C) (HG : ∀ t σ L st r, G t σ L st = some r → zGW X m kr t σ L st r) {es : List zEnt} {pc n a b ww u : Nat} {cf : Nat × Nat × Nat} {k32 : Int32} {k64 : Int64} {sw : List (Int32 × Nat)}  (hc : zchE m (pc, .l2i, n, (a, b, ww, u), cf, k32, k64, sw) = true) (IH : ztm .l2i = false → ∀ σ L st r, zev C G (mRc m) kr es σ L st = some r → zGW X m kr (pc + n) σ L st r) {σ : zH} {L st : List zAV} {r : ρ} (h : zev C G (mRc m) kr ((pc, .l2i, n, (a, b, ww, u), cf, k32, k64, sw) :: es) σ L st = some r) : zGW X m kr pc σ L st r := by
  obtain ⟨hX, hbd, hJl, hJc, hCS, hm⟩ := hY
  unfold zev at h
  unfold zchE at hc
  dsimp only [eA, eB, eW, eU, eF, eK, eJ, eS] at hc h
  rw [Bool.and_eq_true, decide_eq_true_eq] at hc
  obtain ⟨hdg, hc⟩ := hc
  simp only [Bool.and_eq_true, decide_eq_true_eq] at hc
  subst hc
  exact zt_l2i hdg (IH rfl) h
theorem zv_i2b (hY : zHY X m C) (HG : ∀ t σ L st r, G t σ L st = some r → zGW X m kr t σ L st r) {es : List zEnt} {pc n a b ww u : Nat} {cf : Nat × Nat × Nat} {k32 : Int32} {k64 : Int64} {sw : List (Int32 × Nat)}  (hc : zchE m (pc, .i2b, n, (a, b, ww, u), cf, k32, k64, sw) = true) (IH : ztm .i2b = false → ∀ σ L st r, zev C G (mRc m) kr es σ L st = some r → zGW X m kr (pc + n) σ L st r) {σ : zH} {L st : List zAV} {r : ρ} (h : zev C G (mRc m) kr ((pc, .i2b, n, (a, b, ww, u), cf, k32, k64, sw) :: es) σ L st = some r) : zGW X m kr pc σ L st r := by
  obtain ⟨hX, hbd, hJl, hJc, hCS, hm⟩ := hY
  unfold zev at h
  unfold zchE at hc
  dsimp only [eA, eB, eW, eU, eF, eK, eJ, eS] at hc h
  rw [Bool.and_eq_true, decide_eq_true_eq] at hc
  obtain ⟨hdg, hc⟩ := hc
  simp only [Bool.and_eq_true, decide_eq_true_eq] at hc
  subst hc
  exact zt_i2b hdg (IH rfl) h
theorem zv_dup (hY : zHY X m C) (HG : ∀ t σ L st r, G t σ L st = some r → zGW X m kr t σ L st r) {es : List zEnt} {pc n a b ww u : Nat} {cf : Nat × Nat × Nat} {k32 : Int32} {k64 : Int64} {sw : List (Int32 × Nat)}  (hc : zchE m (pc, .dup, n, (a, b, ww, u), cf, k32, k64, sw) = true) (IH : ztm .dup = false → ∀ σ L st r, zev C G (mRc m) kr es σ L st = some r → zGW X m kr (pc + n) σ L st r) {σ : zH} {L st : List zAV} {r : ρ} (h : zev C G (mRc m) kr ((pc, .dup, n, (a, b, ww, u), cf, k32, k64, sw) :: es) σ L st = some r) : zGW X m kr pc σ L st r := by
  obtain ⟨hX, hbd, hJl, hJc, hCS, hm⟩ := hY
  unfold zev at h
  unfold zchE at hc
  dsimp only [eA, eB, eW, eU, eF, eK, eJ, eS] at hc h
  rw [Bool.and_eq_true, decide_eq_true_eq] at hc
  obtain ⟨hdg, hc⟩ := hc
  simp only [Bool.and_eq_true, decide_eq_true_eq] at hc
  subst hc
  exact zt_dup hdg (IH rfl) h
theorem zv_pop (hY : zHY X m C) (HG : ∀ t σ L st r, G t σ L st = some r → zGW X m kr t σ L st r) {es : List zEnt} {pc n a b ww u : Nat} {cf : Nat × Nat × Nat} {k32 : Int32} {k64 : Int64} {sw : List (Int32 × Nat)}  (hc : zchE m (pc, .pop, n, (a, b, ww, u), cf, k32, k64, sw) = true) (IH : ztm .pop = false → ∀ σ L st r, zev C G (mRc m) kr es σ L st = some r → zGW X m kr (pc + n) σ L st r) {σ : zH} {L st : List zAV} {r : ρ} (h : zev C G (mRc m) kr ((pc, .pop, n, (a, b, ww, u), cf, k32, k64, sw) :: es) σ L st = some r) : zGW X m kr pc σ L st r := by
  obtain ⟨hX, hbd, hJl, hJc, hCS, hm⟩ := hY
  unfold zev at h
  unfold zchE at hc
  dsimp only [eA, eB, eW, eU, eF, eK, eJ, eS] at hc h
  rw [Bool.and_eq_true, decide_eq_true_eq] at hc
  obtain ⟨hdg, hc⟩ := hc
  simp only [Bool.and_eq_true, decide_eq_true_eq] at hc
  subst hc
  exact zt_pop hdg (IH rfl) h
theorem zv_dup2 (hY : zHY X m C) (HG : ∀ t σ L st r, G t σ L st = some r → zGW X m kr t σ L st r) {es : List zEnt} {pc n a b ww u : Nat} {cf : Nat × Nat × Nat} {k32 : Int32} {k64 : Int64} {sw : List (Int32 × Nat)}  (hc : zchE m (pc, .dup2, n, (a, b, ww, u), cf, k32, k64, sw) = true) (IH : ztm .dup2 = false → ∀ σ L st r, zev C G (mRc m) kr es σ L st = some r → zGW X m kr (pc + n) σ L st r) {σ : zH} {L st : List zAV} {r : ρ} (h : zev C G (mRc m) kr ((pc, .dup2, n, (a, b, ww, u), cf, k32, k64, sw) :: es) σ L st = some r) : zGW X m kr pc σ L st r := by
  obtain ⟨hX, hbd, hJl, hJc, hCS, hm⟩ := hY
  unfold zev at h
  unfold zchE at hc
  dsimp only [eA, eB, eW, eU, eF, eK, eJ, eS] at hc h
  rw [Bool.and_eq_true, decide_eq_true_eq] at hc
  obtain ⟨hdg, hc⟩ := hc
  simp only [Bool.and_eq_true, decide_eq_true_eq] at hc
  subst hc
  exact zt_dup2 hdg (IH rfl) h
theorem zv_iaload (hY : zHY X m C) (HG : ∀ t σ L st r, G t σ L st = some r → zGW X m kr t σ L st r) {es : List zEnt} {pc n a b ww u : Nat} {cf : Nat × Nat × Nat} {k32 : Int32} {k64 : Int64} {sw : List (Int32 × Nat)}  (hc : zchE m (pc, .iaload, n, (a, b, ww, u), cf, k32, k64, sw) = true) (IH : ztm .iaload = false → ∀ σ L st r, zev C G (mRc m) kr es σ L st = some r → zGW X m kr (pc + n) σ L st r) {σ : zH} {L st : List zAV} {r : ρ} (h : zev C G (mRc m) kr ((pc, .iaload, n, (a, b, ww, u), cf, k32, k64, sw) :: es) σ L st = some r) : zGW X m kr pc σ L st r := by
  obtain ⟨hX, hbd, hJl, hJc, hCS, hm⟩ := hY
  unfold zev at h
  unfold zchE at hc
  dsimp only [eA, eB, eW, eU, eF, eK, eJ, eS] at hc h
  rw [Bool.and_eq_true, decide_eq_true_eq] at hc
  obtain ⟨hdg, hc⟩ := hc
  simp only [Bool.and_eq_true, decide_eq_true_eq] at hc
  subst hc
  obtain ⟨x, t, rfl, h1⟩ := zpI_some h
  obtain ⟨k, i, t, rfl, h2⟩ := zpR_some h1
  obtain ⟨h3, h4⟩ := gd_some h2
  obtain ⟨h5, h6⟩ := ix_some h4
  exact zt_iaload (by simpa using h3) h5 hdg (IH rfl _ _ _ _ h6)
theorem zv_baload (hY : zHY X m C) (HG : ∀ t σ L st r, G t σ L st = some r → zGW X m kr t σ L st r) {es : List zEnt} {pc n a b ww u : Nat} {cf : Nat × Nat × Nat} {k32 : Int32} {k64 : Int64} {sw : List (Int32 × Nat)}  (hc : zchE m (pc, .baload, n, (a, b, ww, u), cf, k32, k64, sw) = true) (IH : ztm .baload = false → ∀ σ L st r, zev C G (mRc m) kr es σ L st = some r → zGW X m kr (pc + n) σ L st r) {σ : zH} {L st : List zAV} {r : ρ} (h : zev C G (mRc m) kr ((pc, .baload, n, (a, b, ww, u), cf, k32, k64, sw) :: es) σ L st = some r) : zGW X m kr pc σ L st r := by
  obtain ⟨hX, hbd, hJl, hJc, hCS, hm⟩ := hY
  unfold zev at h
  unfold zchE at hc
  dsimp only [eA, eB, eW, eU, eF, eK, eJ, eS] at hc h
  rw [Bool.and_eq_true, decide_eq_true_eq] at hc
  obtain ⟨hdg, hc⟩ := hc
  simp only [Bool.and_eq_true, decide_eq_true_eq] at hc
  subst hc
  obtain ⟨x, t, rfl, h1⟩ := zpI_some h
  obtain ⟨k, i, t, rfl, h2⟩ := zpR_some h1
  obtain ⟨h3, h4⟩ := gd_some h2
  obtain ⟨h5, h6⟩ := ix_some h4
  exact zt_baload (by simpa using h3) h5 hdg (IH rfl _ _ _ _ h6)
theorem zv_laload (hY : zHY X m C) (HG : ∀ t σ L st r, G t σ L st = some r → zGW X m kr t σ L st r) {es : List zEnt} {pc n a b ww u : Nat} {cf : Nat × Nat × Nat} {k32 : Int32} {k64 : Int64} {sw : List (Int32 × Nat)}  (hc : zchE m (pc, .laload, n, (a, b, ww, u), cf, k32, k64, sw) = true) (IH : ztm .laload = false → ∀ σ L st r, zev C G (mRc m) kr es σ L st = some r → zGW X m kr (pc + n) σ L st r) {σ : zH} {L st : List zAV} {r : ρ} (h : zev C G (mRc m) kr ((pc, .laload, n, (a, b, ww, u), cf, k32, k64, sw) :: es) σ L st = some r) : zGW X m kr pc σ L st r := by
  obtain ⟨hX, hbd, hJl, hJc, hCS, hm⟩ := hY
  unfold zev at h
  unfold zchE at hc
  dsimp only [eA, eB, eW, eU, eF, eK, eJ, eS] at hc h
  rw [Bool.and_eq_true, decide_eq_true_eq] at hc
  obtain ⟨hdg, hc⟩ := hc
  simp only [Bool.and_eq_true, decide_eq_true_eq] at hc
  subst hc
  obtain ⟨x, t, rfl, h1⟩ := zpI_some h
  obtain ⟨k, i, t, rfl, h2⟩ := zpR_some h1
  obtain ⟨h3, h4⟩ := gd_some h2
  obtain ⟨h5, h6⟩ := ix_some h4
  exact zt_laload (by simpa using h3) h5 hdg (IH rfl _ _ _ _ h6)
theorem zv_aaload (hY : zHY X m C) (HG : ∀ t σ L st r, G t σ L st = some r → zGW X m kr t σ L st r) {es : List zEnt} {pc n a b ww u : Nat} {cf : Nat × Nat × Nat} {k32 : Int32} {k64 : Int64} {sw : List (Int32 × Nat)}  (hc : zchE m (pc, .aaload, n, (a, b, ww, u), cf, k32, k64, sw) = true) (IH : ztm .aaload = false → ∀ σ L st r, zev C G (mRc m) kr es σ L st = some r → zGW X m kr (pc + n) σ L st r) {σ : zH} {L st : List zAV} {r : ρ} (h : zev C G (mRc m) kr ((pc, .aaload, n, (a, b, ww, u), cf, k32, k64, sw) :: es) σ L st = some r) : zGW X m kr pc σ L st r := by
  obtain ⟨hX, hbd, hJl, hJc, hCS, hm⟩ := hY
  unfold zev at h
  unfold zchE at hc
  dsimp only [eA, eB, eW, eU, eF, eK, eJ, eS] at hc h
  rw [Bool.and_eq_true, decide_eq_true_eq] at hc
  obtain ⟨hdg, hc⟩ := hc
  simp only [Bool.and_eq_true, decide_eq_true_eq] at hc
  subst hc
  obtain ⟨x, t, rfl, h1⟩ := zpI_some h
  obtain ⟨k, i, t, rfl, h2⟩ := zpR_some h1
  obtain ⟨h3, h4⟩ := gd_some h2
  obtain ⟨h5, h6⟩ := ix_some h4
  rw [Bool.and_eq_true] at h3
  exact zt_aaload hX (Nat.le_of_ble_eq_true h3.1) (Nat.le_of_ble_eq_true h3.2) h5 hdg (IH rfl _ _ _ _ h6)
theorem zv_arraylength (hY : zHY X m C) (HG : ∀ t σ L st r, G t σ L st = some r → zGW X m kr t σ L st r) {es : List zEnt} {pc n a b ww u : Nat} {cf : Nat × Nat × Nat} {k32 : Int32} {k64 : Int64} {sw : List (Int32 × Nat)}  (hc : zchE m (pc, .arraylength, n, (a, b, ww, u), cf, k32, k64, sw) = true) (IH : ztm .arraylength = false → ∀ σ L st r, zev C G (mRc m) kr es σ L st = some r → zGW X m kr (pc + n) σ L st r) {σ : zH} {L st : List zAV} {r : ρ} (h : zev C G (mRc m) kr ((pc, .arraylength, n, (a, b, ww, u), cf, k32, k64, sw) :: es) σ L st = some r) : zGW X m kr pc σ L st r := by
  obtain ⟨hX, hbd, hJl, hJc, hCS, hm⟩ := hY
  unfold zev at h
  unfold zchE at hc
  dsimp only [eA, eB, eW, eU, eF, eK, eJ, eS] at hc h
  rw [Bool.and_eq_true, decide_eq_true_eq] at hc
  obtain ⟨hdg, hc⟩ := hc
  simp only [Bool.and_eq_true, decide_eq_true_eq] at hc
  subst hc
  obtain ⟨k, i, t, rfl, h2⟩ := zpR_some h
  obtain ⟨h3, h4⟩ := gd_some h2
  exact zt_alen (Nat.le_of_ble_eq_true h3) hdg (IH rfl _ _ _ _ h4)
theorem zv_iastore (hY : zHY X m C) (HG : ∀ t σ L st r, G t σ L st = some r → zGW X m kr t σ L st r) {es : List zEnt} {pc n a b ww u : Nat} {cf : Nat × Nat × Nat} {k32 : Int32} {k64 : Int64} {sw : List (Int32 × Nat)}  (hc : zchE m (pc, .iastore, n, (a, b, ww, u), cf, k32, k64, sw) = true) (IH : ztm .iastore = false → ∀ σ L st r, zev C G (mRc m) kr es σ L st = some r → zGW X m kr (pc + n) σ L st r) {σ : zH} {L st : List zAV} {r : ρ} (h : zev C G (mRc m) kr ((pc, .iastore, n, (a, b, ww, u), cf, k32, k64, sw) :: es) σ L st = some r) : zGW X m kr pc σ L st r := by
  obtain ⟨hX, hbd, hJl, hJc, hCS, hm⟩ := hY
  unfold zev at h
  unfold zchE at hc
  dsimp only [eA, eB, eW, eU, eF, eK, eJ, eS] at hc h
  rw [Bool.and_eq_true, decide_eq_true_eq] at hc
  obtain ⟨hdg, hc⟩ := hc
  simp only [Bool.and_eq_true, decide_eq_true_eq] at hc
  subst hc
  obtain ⟨y, t, rfl, h0⟩ := zpI_some h
  obtain ⟨x, t, rfl, h1⟩ := zpI_some h0
  obtain ⟨k, i, t, rfl, h2⟩ := zpR_some h1
  obtain ⟨h3, h4⟩ := gd_some h2
  obtain ⟨h5, h6⟩ := ix_some h4
  exact zt_iastore hX (by simpa using h3) h5 hdg (IH rfl _ _ _ _ h6)
theorem zv_bastore (hY : zHY X m C) (HG : ∀ t σ L st r, G t σ L st = some r → zGW X m kr t σ L st r) {es : List zEnt} {pc n a b ww u : Nat} {cf : Nat × Nat × Nat} {k32 : Int32} {k64 : Int64} {sw : List (Int32 × Nat)}  (hc : zchE m (pc, .bastore, n, (a, b, ww, u), cf, k32, k64, sw) = true) (IH : ztm .bastore = false → ∀ σ L st r, zev C G (mRc m) kr es σ L st = some r → zGW X m kr (pc + n) σ L st r) {σ : zH} {L st : List zAV} {r : ρ} (h : zev C G (mRc m) kr ((pc, .bastore, n, (a, b, ww, u), cf, k32, k64, sw) :: es) σ L st = some r) : zGW X m kr pc σ L st r := by
  obtain ⟨hX, hbd, hJl, hJc, hCS, hm⟩ := hY
  unfold zev at h
  unfold zchE at hc
  dsimp only [eA, eB, eW, eU, eF, eK, eJ, eS] at hc h
  rw [Bool.and_eq_true, decide_eq_true_eq] at hc
  obtain ⟨hdg, hc⟩ := hc
  simp only [Bool.and_eq_true, decide_eq_true_eq] at hc
  subst hc
  obtain ⟨y, t, rfl, h0⟩ := zpI_some h
  obtain ⟨x, t, rfl, h1⟩ := zpI_some h0
  obtain ⟨k, i, t, rfl, h2⟩ := zpR_some h1
  cases hk : aT k == 1 with
  | true =>
    rw [hk] at h2
    obtain ⟨h5, h6⟩ := ix_some (show ix x (aN k) (fun n => zev C G (mRc m) kr es (uI σ k i n y.toInt8.toInt32) L t) = some r from h2)
    exact zt_bastore1 hX (by simpa using hk) h5 hdg (IH rfl _ _ _ _ h6)
  | false =>
    rw [hk] at h2
    obtain ⟨h3, h4⟩ := gd_some (show gd (aT k == 2) (tv y (ix x (aN k) fun n => zev C G (mRc m) kr es (uI σ k i n y) L t)) = some r from h2)
    obtain ⟨h5, h6⟩ := tv_some h4
    obtain ⟨h7, h8⟩ := ix_some h6
    exact zt_bastore2 hX (by simpa using h3) h5 h7 hdg (IH rfl _ _ _ _ h8)
theorem zv_lastore (hY : zHY X m C) (HG : ∀ t σ L st r, G t σ L st = some r → zGW X m kr t σ L st r) {es : List zEnt} {pc n a b ww u : Nat} {cf : Nat × Nat × Nat} {k32 : Int32} {k64 : Int64} {sw : List (Int32 × Nat)}  (hc : zchE m (pc, .lastore, n, (a, b, ww, u), cf, k32, k64, sw) = true) (IH : ztm .lastore = false → ∀ σ L st r, zev C G (mRc m) kr es σ L st = some r → zGW X m kr (pc + n) σ L st r) {σ : zH} {L st : List zAV} {r : ρ} (h : zev C G (mRc m) kr ((pc, .lastore, n, (a, b, ww, u), cf, k32, k64, sw) :: es) σ L st = some r) : zGW X m kr pc σ L st r := by
  obtain ⟨hX, hbd, hJl, hJc, hCS, hm⟩ := hY
  unfold zev at h
  unfold zchE at hc
  dsimp only [eA, eB, eW, eU, eF, eK, eJ, eS] at hc h
  rw [Bool.and_eq_true, decide_eq_true_eq] at hc
  obtain ⟨hdg, hc⟩ := hc
  simp only [Bool.and_eq_true, decide_eq_true_eq] at hc
  subst hc
  obtain ⟨y, t, rfl, h0⟩ := zpL_some h
  obtain ⟨x, t, rfl, h1⟩ := zpI_some h0
  obtain ⟨k, i, t, rfl, h2⟩ := zpR_some h1
  obtain ⟨h3, h4⟩ := gd_some h2
  obtain ⟨h5, h6⟩ := ix_some h4
  exact zt_lastore hX (by simpa using h3) h5 hdg (IH rfl _ _ _ _ h6)
theorem zv_goto (hY : zHY X m C) (HG : ∀ t σ L st r, G t σ L st = some r → zGW X m kr t σ L st r) {es : List zEnt} {pc n a b ww u : Nat} {cf : Nat × Nat × Nat} {k32 : Int32} {k64 : Int64} {sw : List (Int32 × Nat)} {off : Int} (hc : zchE m (pc, (.goto off), n, (a, b, ww, u), cf, k32, k64, sw) = true) (IH : ztm (.goto off) = false → ∀ σ L st r, zev C G (mRc m) kr es σ L st = some r → zGW X m kr (pc + n) σ L st r) {σ : zH} {L st : List zAV} {r : ρ} (h : zev C G (mRc m) kr ((pc, (.goto off), n, (a, b, ww, u), cf, k32, k64, sw) :: es) σ L st = some r) : zGW X m kr pc σ L st r := by
  obtain ⟨hX, hbd, hJl, hJc, hCS, hm⟩ := hY
  unfold zev at h
  unfold zchE at hc
  dsimp only [eA, eB, eW, eU, eF, eK, eJ, eS] at hc h
  rw [Bool.and_eq_true, decide_eq_true_eq] at hc
  obtain ⟨hdg, hc⟩ := hc
  simp only [Bool.and_eq_true, decide_eq_true_eq] at hc
  obtain ⟨hn1, hz⟩ := hc
  subst hn1
  exact zt_goto (N := fun _ _ _ => none) hz hdg HG h
theorem zv_ifond_eq (hY : zHY X m C) (HG : ∀ t σ L st r, G t σ L st = some r → zGW X m kr t σ L st r) {es : List zEnt} {pc n a b ww u : Nat} {cf : Nat × Nat × Nat} {k32 : Int32} {k64 : Int64} {sw : List (Int32 × Nat)} {off : Int} (hc : zchE m (pc, (.ifCond .eq off), n, (a, b, ww, u), cf, k32, k64, sw) = true) (IH : ztm (.ifCond .eq off) = false → ∀ σ L st r, zev C G (mRc m) kr es σ L st = some r → zGW X m kr (pc + n) σ L st r) {σ : zH} {L st : List zAV} {r : ρ} (h : zev C G (mRc m) kr ((pc, (.ifCond .eq off), n, (a, b, ww, u), cf, k32, k64, sw) :: es) σ L st = some r) : zGW X m kr pc σ L st r := by
  obtain ⟨hX, hbd, hJl, hJc, hCS, hm⟩ := hY
  unfold zev at h
  unfold zchE at hc
  dsimp only [eA, eB, eW, eU, eF, eK, eJ, eS] at hc h
  rw [Bool.and_eq_true, decide_eq_true_eq] at hc
  obtain ⟨hdg, hc⟩ := hc
  simp only [Bool.and_eq_true, decide_eq_true_eq] at hc
  obtain ⟨hn1, hz⟩ := hc
  subst hn1
  exact zt_if_eq hz hdg HG (IH rfl) h
theorem zv_if_icmp_eq (hY : zHY X m C) (HG : ∀ t σ L st r, G t σ L st = some r → zGW X m kr t σ L st r) {es : List zEnt} {pc n a b ww u : Nat} {cf : Nat × Nat × Nat} {k32 : Int32} {k64 : Int64} {sw : List (Int32 × Nat)} {off : Int} (hc : zchE m (pc, (.if_icmp .eq off), n, (a, b, ww, u), cf, k32, k64, sw) = true) (IH : ztm (.if_icmp .eq off) = false → ∀ σ L st r, zev C G (mRc m) kr es σ L st = some r → zGW X m kr (pc + n) σ L st r) {σ : zH} {L st : List zAV} {r : ρ} (h : zev C G (mRc m) kr ((pc, (.if_icmp .eq off), n, (a, b, ww, u), cf, k32, k64, sw) :: es) σ L st = some r) : zGW X m kr pc σ L st r := by
  obtain ⟨hX, hbd, hJl, hJc, hCS, hm⟩ := hY
  unfold zev at h
  unfold zchE at hc
  dsimp only [eA, eB, eW, eU, eF, eK, eJ, eS] at hc h
  rw [Bool.and_eq_true, decide_eq_true_eq] at hc
  obtain ⟨hdg, hc⟩ := hc
  simp only [Bool.and_eq_true, decide_eq_true_eq] at hc
  obtain ⟨hn1, hz⟩ := hc
  subst hn1
  exact zt_icmp_eq hz hdg HG (IH rfl) h
theorem zv_ifond_ne (hY : zHY X m C) (HG : ∀ t σ L st r, G t σ L st = some r → zGW X m kr t σ L st r) {es : List zEnt} {pc n a b ww u : Nat} {cf : Nat × Nat × Nat} {k32 : Int32} {k64 : Int64} {sw : List (Int32 × Nat)} {off : Int} (hc : zchE m (pc, (.ifCond .ne off), n, (a, b, ww, u), cf, k32, k64, sw) = true) (IH : ztm (.ifCond .ne off) = false → ∀ σ L st r, zev C G (mRc m) kr es σ L st = some r → zGW X m kr (pc + n) σ L st r) {σ : zH} {L st : List zAV} {r : ρ} (h : zev C G (mRc m) kr ((pc, (.ifCond .ne off), n, (a, b, ww, u), cf, k32, k64, sw) :: es) σ L st = some r) : zGW X m kr pc σ L st r := by
  obtain ⟨hX, hbd, hJl, hJc, hCS, hm⟩ := hY
  unfold zev at h
  unfold zchE at hc
  dsimp only [eA, eB, eW, eU, eF, eK, eJ, eS] at hc h
  rw [Bool.and_eq_true, decide_eq_true_eq] at hc
  obtain ⟨hdg, hc⟩ := hc
  simp only [Bool.and_eq_true, decide_eq_true_eq] at hc
  obtain ⟨hn1, hz⟩ := hc
  subst hn1
  exact zt_if_ne hz hdg HG (IH rfl) h
theorem zv_if_icmp_ne (hY : zHY X m C) (HG : ∀ t σ L st r, G t σ L st = some r → zGW X m kr t σ L st r) {es : List zEnt} {pc n a b ww u : Nat} {cf : Nat × Nat × Nat} {k32 : Int32} {k64 : Int64} {sw : List (Int32 × Nat)} {off : Int} (hc : zchE m (pc, (.if_icmp .ne off), n, (a, b, ww, u), cf, k32, k64, sw) = true) (IH : ztm (.if_icmp .ne off) = false → ∀ σ L st r, zev C G (mRc m) kr es σ L st = some r → zGW X m kr (pc + n) σ L st r) {σ : zH} {L st : List zAV} {r : ρ} (h : zev C G (mRc m) kr ((pc, (.if_icmp .ne off), n, (a, b, ww, u), cf, k32, k64, sw) :: es) σ L st = some r) : zGW X m kr pc σ L st r := by
  obtain ⟨hX, hbd, hJl, hJc, hCS, hm⟩ := hY
  unfold zev at h
  unfold zchE at hc
  dsimp only [eA, eB, eW, eU, eF, eK, eJ, eS] at hc h
  rw [Bool.and_eq_true, decide_eq_true_eq] at hc
  obtain ⟨hdg, hc⟩ := hc
  simp only [Bool.and_eq_true, decide_eq_true_eq] at hc
  obtain ⟨hn1, hz⟩ := hc
  subst hn1
  exact zt_icmp_ne hz hdg HG (IH rfl) h
theorem zv_ifond_lt (hY : zHY X m C) (HG : ∀ t σ L st r, G t σ L st = some r → zGW X m kr t σ L st r) {es : List zEnt} {pc n a b ww u : Nat} {cf : Nat × Nat × Nat} {k32 : Int32} {k64 : Int64} {sw : List (Int32 × Nat)} {off : Int} (hc : zchE m (pc, (.ifCond .lt off), n, (a, b, ww, u), cf, k32, k64, sw) = true) (IH : ztm (.ifCond .lt off) = false → ∀ σ L st r, zev C G (mRc m) kr es σ L st = some r → zGW X m kr (pc + n) σ L st r) {σ : zH} {L st : List zAV} {r : ρ} (h : zev C G (mRc m) kr ((pc, (.ifCond .lt off), n, (a, b, ww, u), cf, k32, k64, sw) :: es) σ L st = some r) : zGW X m kr pc σ L st r := by
  obtain ⟨hX, hbd, hJl, hJc, hCS, hm⟩ := hY
  unfold zev at h
  unfold zchE at hc
  dsimp only [eA, eB, eW, eU, eF, eK, eJ, eS] at hc h
  rw [Bool.and_eq_true, decide_eq_true_eq] at hc
  obtain ⟨hdg, hc⟩ := hc
  simp only [Bool.and_eq_true, decide_eq_true_eq] at hc
  obtain ⟨hn1, hz⟩ := hc
  subst hn1
  exact zt_if_lt hz hdg HG (IH rfl) h
theorem zv_if_icmp_lt (hY : zHY X m C) (HG : ∀ t σ L st r, G t σ L st = some r → zGW X m kr t σ L st r) {es : List zEnt} {pc n a b ww u : Nat} {cf : Nat × Nat × Nat} {k32 : Int32} {k64 : Int64} {sw : List (Int32 × Nat)} {off : Int} (hc : zchE m (pc, (.if_icmp .lt off), n, (a, b, ww, u), cf, k32, k64, sw) = true) (IH : ztm (.if_icmp .lt off) = false → ∀ σ L st r, zev C G (mRc m) kr es σ L st = some r → zGW X m kr (pc + n) σ L st r) {σ : zH} {L st : List zAV} {r : ρ} (h : zev C G (mRc m) kr ((pc, (.if_icmp .lt off), n, (a, b, ww, u), cf, k32, k64, sw) :: es) σ L st = some r) : zGW X m kr pc σ L st r := by
  obtain ⟨hX, hbd, hJl, hJc, hCS, hm⟩ := hY
  unfold zev at h
  unfold zchE at hc
  dsimp only [eA, eB, eW, eU, eF, eK, eJ, eS] at hc h
  rw [Bool.and_eq_true, decide_eq_true_eq] at hc
  obtain ⟨hdg, hc⟩ := hc
  simp only [Bool.and_eq_true, decide_eq_true_eq] at hc
  obtain ⟨hn1, hz⟩ := hc
  subst hn1
  exact zt_icmp_lt hz hdg HG (IH rfl) h
theorem zv_ifond_ge (hY : zHY X m C) (HG : ∀ t σ L st r, G t σ L st = some r → zGW X m kr t σ L st r) {es : List zEnt} {pc n a b ww u : Nat} {cf : Nat × Nat × Nat} {k32 : Int32} {k64 : Int64} {sw : List (Int32 × Nat)} {off : Int} (hc : zchE m (pc, (.ifCond .ge off), n, (a, b, ww, u), cf, k32, k64, sw) = true) (IH : ztm (.ifCond .ge off) = false → ∀ σ L st r, zev C G (mRc m) kr es σ L st = some r → zGW X m kr (pc + n) σ L st r) {σ : zH} {L st : List zAV} {r : ρ} (h : zev C G (mRc m) kr ((pc, (.ifCond .ge off), n, (a, b, ww, u), cf, k32, k64, sw) :: es) σ L st = some r) : zGW X m kr pc σ L st r := by
  obtain ⟨hX, hbd, hJl, hJc, hCS, hm⟩ := hY
  unfold zev at h
  unfold zchE at hc
  dsimp only [eA, eB, eW, eU, eF, eK, eJ, eS] at hc h
  rw [Bool.and_eq_true, decide_eq_true_eq] at hc
  obtain ⟨hdg, hc⟩ := hc
  simp only [Bool.and_eq_true, decide_eq_true_eq] at hc
  obtain ⟨hn1, hz⟩ := hc
  subst hn1
  exact zt_if_ge hz hdg HG (IH rfl) h
theorem zv_if_icmp_ge (hY : zHY X m C) (HG : ∀ t σ L st r, G t σ L st = some r → zGW X m kr t σ L st r) {es : List zEnt} {pc n a b ww u : Nat} {cf : Nat × Nat × Nat} {k32 : Int32} {k64 : Int64} {sw : List (Int32 × Nat)} {off : Int} (hc : zchE m (pc, (.if_icmp .ge off), n, (a, b, ww, u), cf, k32, k64, sw) = true) (IH : ztm (.if_icmp .ge off) = false → ∀ σ L st r, zev C G (mRc m) kr es σ L st = some r → zGW X m kr (pc + n) σ L st r) {σ : zH} {L st : List zAV} {r : ρ} (h : zev C G (mRc m) kr ((pc, (.if_icmp .ge off), n, (a, b, ww, u), cf, k32, k64, sw) :: es) σ L st = some r) : zGW X m kr pc σ L st r := by
  obtain ⟨hX, hbd, hJl, hJc, hCS, hm⟩ := hY
  unfold zev at h
  unfold zchE at hc
  dsimp only [eA, eB, eW, eU, eF, eK, eJ, eS] at hc h
  rw [Bool.and_eq_true, decide_eq_true_eq] at hc
  obtain ⟨hdg, hc⟩ := hc
  simp only [Bool.and_eq_true, decide_eq_true_eq] at hc
  obtain ⟨hn1, hz⟩ := hc
  subst hn1
  exact zt_icmp_ge hz hdg HG (IH rfl) h
theorem zv_ifond_gt (hY : zHY X m C) (HG : ∀ t σ L st r, G t σ L st = some r → zGW X m kr t σ L st r) {es : List zEnt} {pc n a b ww u : Nat} {cf : Nat × Nat × Nat} {k32 : Int32} {k64 : Int64} {sw : List (Int32 × Nat)} {off : Int} (hc : zchE m (pc, (.ifCond .gt off), n, (a, b, ww, u), cf, k32, k64, sw) = true) (IH : ztm (.ifCond .gt off) = false → ∀ σ L st r, zev C G (mRc m) kr es σ L st = some r → zGW X m kr (pc + n) σ L st r) {σ : zH} {L st : List zAV} {r : ρ} (h : zev C G (mRc m) kr ((pc, (.ifCond .gt off), n, (a, b, ww, u), cf, k32, k64, sw) :: es) σ L st = some r) : zGW X m kr pc σ L st r := by
  obtain ⟨hX, hbd, hJl, hJc, hCS, hm⟩ := hY
  unfold zev at h
  unfold zchE at hc
  dsimp only [eA, eB, eW, eU, eF, eK, eJ, eS] at hc h
  rw [Bool.and_eq_true, decide_eq_true_eq] at hc
  obtain ⟨hdg, hc⟩ := hc
  simp only [Bool.and_eq_true, decide_eq_true_eq] at hc
  obtain ⟨hn1, hz⟩ := hc
  subst hn1
  exact zt_if_gt hz hdg HG (IH rfl) h
theorem zv_if_icmp_gt (hY : zHY X m C) (HG : ∀ t σ L st r, G t σ L st = some r → zGW X m kr t σ L st r) {es : List zEnt} {pc n a b ww u : Nat} {cf : Nat × Nat × Nat} {k32 : Int32} {k64 : Int64} {sw : List (Int32 × Nat)} {off : Int} (hc : zchE m (pc, (.if_icmp .gt off), n, (a, b, ww, u), cf, k32, k64, sw) = true) (IH : ztm (.if_icmp .gt off) = false → ∀ σ L st r, zev C G (mRc m) kr es σ L st = some r → zGW X m kr (pc + n) σ L st r) {σ : zH} {L st : List zAV} {r : ρ} (h : zev C G (mRc m) kr ((pc, (.if_icmp .gt off), n, (a, b, ww, u), cf, k32, k64, sw) :: es) σ L st = some r) : zGW X m kr pc σ L st r := by
  obtain ⟨hX, hbd, hJl, hJc, hCS, hm⟩ := hY
  unfold zev at h
  unfold zchE at hc
  dsimp only [eA, eB, eW, eU, eF, eK, eJ, eS] at hc h
  rw [Bool.and_eq_true, decide_eq_true_eq] at hc
  obtain ⟨hdg, hc⟩ := hc
  simp only [Bool.and_eq_true, decide_eq_true_eq] at hc
  obtain ⟨hn1, hz⟩ := hc
  subst hn1
  exact zt_icmp_gt hz hdg HG (IH rfl) h
theorem zv_ifond_le (hY : zHY X m C) (HG : ∀ t σ L st r, G t σ L st = some r → zGW X m kr t σ L st r) {es : List zEnt} {pc n a b ww u : Nat} {cf : Nat × Nat × Nat} {k32 : Int32} {k64 : Int64} {sw : List (Int32 × Nat)} {off : Int} (hc : zchE m (pc, (.ifCond .le off), n, (a, b, ww, u), cf, k32, k64, sw) = true) (IH : ztm (.ifCond .le off) = false → ∀ σ L st r, zev C G (mRc m) kr es σ L st = some r → zGW X m kr (pc + n) σ L st r) {σ : zH} {L st : List zAV} {r : ρ} (h : zev C G (mRc m) kr ((pc, (.ifCond .le off), n, (a, b, ww, u), cf, k32, k64, sw) :: es) σ L st = some r) : zGW X m kr pc σ L st r := by
  obtain ⟨hX, hbd, hJl, hJc, hCS, hm⟩ := hY
  unfold zev at h
  unfold zchE at hc
  dsimp only [eA, eB, eW, eU, eF, eK, eJ, eS] at hc h
  rw [Bool.and_eq_true, decide_eq_true_eq] at hc
  obtain ⟨hdg, hc⟩ := hc
  simp only [Bool.and_eq_true, decide_eq_true_eq] at hc
  obtain ⟨hn1, hz⟩ := hc
  subst hn1
  exact zt_if_le hz hdg HG (IH rfl) h
theorem zv_if_icmp_le (hY : zHY X m C) (HG : ∀ t σ L st r, G t σ L st = some r → zGW X m kr t σ L st r) {es : List zEnt} {pc n a b ww u : Nat} {cf : Nat × Nat × Nat} {k32 : Int32} {k64 : Int64} {sw : List (Int32 × Nat)} {off : Int} (hc : zchE m (pc, (.if_icmp .le off), n, (a, b, ww, u), cf, k32, k64, sw) = true) (IH : ztm (.if_icmp .le off) = false → ∀ σ L st r, zev C G (mRc m) kr es σ L st = some r → zGW X m kr (pc + n) σ L st r) {σ : zH} {L st : List zAV} {r : ρ} (h : zev C G (mRc m) kr ((pc, (.if_icmp .le off), n, (a, b, ww, u), cf, k32, k64, sw) :: es) σ L st = some r) : zGW X m kr pc σ L st r := by
  obtain ⟨hX, hbd, hJl, hJc, hCS, hm⟩ := hY
  unfold zev at h
  unfold zchE at hc
  dsimp only [eA, eB, eW, eU, eF, eK, eJ, eS] at hc h
  rw [Bool.and_eq_true, decide_eq_true_eq] at hc
  obtain ⟨hdg, hc⟩ := hc
  simp only [Bool.and_eq_true, decide_eq_true_eq] at hc
  obtain ⟨hn1, hz⟩ := hc
  subst hn1
  exact zt_icmp_le hz hdg HG (IH rfl) h
theorem zv_tableswitch (hY : zHY X m C) (HG : ∀ t σ L st r, G t σ L st = some r → zGW X m kr t σ L st r) {es : List zEnt} {pc n a b ww u : Nat} {cf : Nat × Nat × Nat} {k32 : Int32} {k64 : Int64} {sw : List (Int32 × Nat)} {d lo hi : Int} {offs : Array Int} (hc : zchE m (pc, (.tableswitch d lo hi offs), n, (a, b, ww, u), cf, k32, k64, sw) = true) (IH : ztm (.tableswitch d lo hi offs) = false → ∀ σ L st r, zev C G (mRc m) kr es σ L st = some r → zGW X m kr (pc + n) σ L st r) {σ : zH} {L st : List zAV} {r : ρ} (h : zev C G (mRc m) kr ((pc, (.tableswitch d lo hi offs), n, (a, b, ww, u), cf, k32, k64, sw) :: es) σ L st = some r) : zGW X m kr pc σ L st r := by
  obtain ⟨hX, hbd, hJl, hJc, hCS, hm⟩ := hY
  unfold zev at h
  unfold zchE at hc
  dsimp only [eA, eB, eW, eU, eF, eK, eJ, eS] at hc h
  rw [Bool.and_eq_true, decide_eq_true_eq] at hc
  obtain ⟨hdg, hc⟩ := hc
  simp only [Bool.and_eq_true, decide_eq_true_eq] at hc
  obtain ⟨⟨h1, h2⟩, h3⟩ := hc
  exact zt_tsw HG h1 h2 h3 hdg h
theorem zv_lookupswitch (hY : zHY X m C) (HG : ∀ t σ L st r, G t σ L st = some r → zGW X m kr t σ L st r) {es : List zEnt} {pc n a b ww u : Nat} {cf : Nat × Nat × Nat} {k32 : Int32} {k64 : Int64} {sw : List (Int32 × Nat)} {d : Int} {ps : Array (Int × Int)} (hc : zchE m (pc, (.lookupswitch d ps), n, (a, b, ww, u), cf, k32, k64, sw) = true) (IH : ztm (.lookupswitch d ps) = false → ∀ σ L st r, zev C G (mRc m) kr es σ L st = some r → zGW X m kr (pc + n) σ L st r) {σ : zH} {L st : List zAV} {r : ρ} (h : zev C G (mRc m) kr ((pc, (.lookupswitch d ps), n, (a, b, ww, u), cf, k32, k64, sw) :: es) σ L st = some r) : zGW X m kr pc σ L st r := by
  obtain ⟨hX, hbd, hJl, hJc, hCS, hm⟩ := hY
  unfold zev at h
  unfold zchE at hc
  dsimp only [eA, eB, eW, eU, eF, eK, eJ, eS] at hc h
  rw [Bool.and_eq_true, decide_eq_true_eq] at hc
  obtain ⟨hdg, hc⟩ := hc
  rw [Bool.and_eq_true, Bool.and_eq_true, decide_eq_true_eq] at hc
  obtain ⟨⟨h1, h2⟩, h3⟩ := hc
  exact zt_lsw HG h1 h2 h3 hdg h
theorem zv_getfield (hY : zHY X m C) (HG : ∀ t σ L st r, G t σ L st = some r → zGW X m kr t σ L st r) {es : List zEnt} {pc n a b ww u : Nat} {cf : Nat × Nat × Nat} {k32 : Int32} {k64 : Int64} {sw : List (Int32 × Nat)} {z : Nat} (hc : zchE m (pc, (.getfield z), n, (a, b, ww, u), cf, k32, k64, sw) = true) (IH : ztm (.getfield z) = false → ∀ σ L st r, zev C G (mRc m) kr es σ L st = some r → zGW X m kr (pc + n) σ L st r) {σ : zH} {L st : List zAV} {r : ρ} (h : zev C G (mRc m) kr ((pc, (.getfield z), n, (a, b, ww, u), cf, k32, k64, sw) :: es) σ L st = some r) : zGW X m kr pc σ L st r := by
  obtain ⟨hX, hbd, hJl, hJc, hCS, hm⟩ := hY
  unfold zev at h
  unfold zchE at hc
  dsimp only [eA, eB, eW, eU, eF, eK, eJ, eS] at hc h
  rw [Bool.and_eq_true, decide_eq_true_eq] at hc
  obtain ⟨hdg, hc⟩ := hc
  simp only [Bool.and_eq_true, decide_eq_true_eq] at hc
  obtain ⟨⟨⟨⟨hn1, h1⟩, h2⟩, h3⟩, h4⟩ := hc
  subst hn1
  subst h4
  have h3 := zfl_w hm h3.1 h3.2
  exact zt_getfield hX h1 h2 h3 hdg (IH rfl) h
theorem zv_putfield (hY : zHY X m C) (HG : ∀ t σ L st r, G t σ L st = some r → zGW X m kr t σ L st r) {es : List zEnt} {pc n a b ww u : Nat} {cf : Nat × Nat × Nat} {k32 : Int32} {k64 : Int64} {sw : List (Int32 × Nat)} {z : Nat} (hc : zchE m (pc, (.putfield z), n, (a, b, ww, u), cf, k32, k64, sw) = true) (IH : ztm (.putfield z) = false → ∀ σ L st r, zev C G (mRc m) kr es σ L st = some r → zGW X m kr (pc + n) σ L st r) {σ : zH} {L st : List zAV} {r : ρ} (h : zev C G (mRc m) kr ((pc, (.putfield z), n, (a, b, ww, u), cf, k32, k64, sw) :: es) σ L st = some r) : zGW X m kr pc σ L st r := by
  obtain ⟨hX, hbd, hJl, hJc, hCS, hm⟩ := hY
  unfold zev at h
  unfold zchE at hc
  dsimp only [eA, eB, eW, eU, eF, eK, eJ, eS] at hc h
  rw [Bool.and_eq_true, decide_eq_true_eq] at hc
  obtain ⟨hdg, hc⟩ := hc
  simp only [Bool.and_eq_true, decide_eq_true_eq] at hc
  obtain ⟨⟨⟨⟨⟨⟨hn1, h1⟩, h2⟩, h3⟩, h4⟩, h5⟩, h6⟩ := hc
  subst hn1
  subst h6
  have h4 := zfl_w hm h4.1 h4.2
  refine zt_putfield hX (fun q hq => (hbd q hq).2) h1 h2 (by simpa using h3) h4 hdg ?_ (IH rfl) h
  clear h
  revert h5
  rcases fC a b with ⟨c1, c2, c3⟩
  intro h5
  match c1, c2, h5 with
  | 0, 0, h5 => exact (of_decide_eq_true (show decide (zcty a b = .int) = true from h5) :)
  | 0, 1, h5 => exact (of_decide_eq_true (show decide (zcty a b = .boolean) = true from h5) :)
  | 0, q + 2, h5 => cases h5
  | 1, _, h5 => cases h5
  | 2, _, h5 => cases h5
  | 3, c2, h5 =>
    have h5 : (decide (c2 ≠ 200) && decide (zcty a b = .object (zcl c2).1)) = true := h5
    rw [Bool.and_eq_true, decide_eq_true_eq, decide_eq_true_eq] at h5
    exact h5
  | q + 4, _, h5 => cases h5
theorem zv_invokevirtual (hY : zHY X m C) (HG : ∀ t σ L st r, G t σ L st = some r → zGW X m kr t σ L st r) {es : List zEnt} {pc n a b ww u : Nat} {cf : Nat × Nat × Nat} {k32 : Int32} {k64 : Int64} {sw : List (Int32 × Nat)} {z : Nat} (hc : zchE m (pc, (.invokevirtual z), n, (a, b, ww, u), cf, k32, k64, sw) = true) (IH : ztm (.invokevirtual z) = false → ∀ σ L st r, zev C G (mRc m) kr es σ L st = some r → zGW X m kr (pc + n) σ L st r) {σ : zH} {L st : List zAV} {r : ρ} (h : zev C G (mRc m) kr ((pc, (.invokevirtual z), n, (a, b, ww, u), cf, k32, k64, sw) :: es) σ L st = some r) : zGW X m kr pc σ L st r := by
  obtain ⟨hX, hbd, hJl, hJc, hCS, hm⟩ := hY
  unfold zev at h
  unfold zchE at hc
  dsimp only [eA, eB, eW, eU, eF, eK, eJ, eS] at hc h
  rw [Bool.and_eq_true, decide_eq_true_eq] at hc
  obtain ⟨hdg, hc⟩ := hc
  rw [Bool.and_eq_true, decide_eq_true_eq] at hc
  obtain ⟨hn1, hc⟩ := hc
  subst hn1
  by_cases ha0 : a = 9000
  · rw [if_pos ha0] at hc h
    rw [Bool.and_eq_true, decide_eq_true_eq] at hc
    obtain ⟨k, i, t, rfl, h2⟩ := zpR_some h
    obtain ⟨h3, h4⟩ := gd_some h2
    rw [Bool.and_eq_true] at h3
    have hk : k = 200 := by simpa using h3.1
    subst hk
    intro hva
    have hi : i < zNS := by
      rcases zvs_hd hva with q | q
      · exact absurd (hbd _ q).1 (Nat.lt_irrefl 200)
      · exact q.2
    exact zt_str (as := []) (n := 0) (hJl i hi σ) trivial (vI_ne _) hi rfl (zJw_at 0 rfl) (zJw_at 1 rfl) (zJw_at 2 rfl) (zJw_at 3 rfl) (zwd_in hc.2) (by decide +kernel) (by decide) hc.1 rfl (Nat.le_of_ble_eq_true h3.2) hdg (IH rfl _ _ _ _ h4) hva
  · rw [if_neg ha0] at hc h
    by_cases ha1 : a = 9001
    · rw [if_pos ha1] at hc h
      rw [Bool.and_eq_true, decide_eq_true_eq] at hc
      obtain ⟨x, t, rfl, h1⟩ := zpI_some h
      obtain ⟨k, i, t, rfl, h2⟩ := zpR_some h1
      obtain ⟨h3, h4⟩ := gd_some h2
      rw [Bool.and_eq_true] at h3
      have hk : k = 200 := by simpa using h3.1
      subst hk
      obtain ⟨h5, h6⟩ := ix_some h4
      intro hva
      have hi : i < zNS := by
        rcases zvs_hd (zvs_tl hva) with q | q
        · exact absurd (hbd _ q).1 (Nat.lt_irrefl 200)
        · exact q.2
      exact zt_str (as := [vI x]) (n := 1) (hJc i hi σ x h5) trivial (vI_ne _) hi rfl (zJw_at 4 rfl) (zJw_at 5 rfl) (zJw_at 2 rfl) (zJw_at 6 rfl) (zwd_in hc.2) (by decide +kernel) (by decide) hc.1 rfl (Nat.le_of_ble_eq_true h3.2) hdg (IH rfl _ _ _ _ h6) hva
    · rw [if_neg ha1] at hc h
      simp only [Bool.and_eq_true, decide_eq_true_eq] at hc
      obtain ⟨⟨⟨⟨⟨k1, k2⟩, k3⟩, k4⟩, k5⟩, k6⟩ := hc
      obtain ⟨h10, h11⟩ := gd_some h
      exact zt_callV hX hCS (zmok_all _ (Nat.le_of_ble_eq_true k1)) k5 k2 k6 k3 (zml_w hm k4.1 k4.2) hdg (IH rfl) (Nat.le_of_ble_eq_true h10) h11
theorem zv_invokestatic (hY : zHY X m C) (HG : ∀ t σ L st r, G t σ L st = some r → zGW X m kr t σ L st r) {es : List zEnt} {pc n a b ww u : Nat} {cf : Nat × Nat × Nat} {k32 : Int32} {k64 : Int64} {sw : List (Int32 × Nat)} {z : Nat} (hc : zchE m (pc, (.invokestatic z), n, (a, b, ww, u), cf, k32, k64, sw) = true) (IH : ztm (.invokestatic z) = false → ∀ σ L st r, zev C G (mRc m) kr es σ L st = some r → zGW X m kr (pc + n) σ L st r) {σ : zH} {L st : List zAV} {r : ρ} (h : zev C G (mRc m) kr ((pc, (.invokestatic z), n, (a, b, ww, u), cf, k32, k64, sw) :: es) σ L st = some r) : zGW X m kr pc σ L st r := by
  obtain ⟨hX, hbd, hJl, hJc, hCS, hm⟩ := hY
  unfold zev at h
  unfold zchE at hc
  dsimp only [eA, eB, eW, eU, eF, eK, eJ, eS] at hc h
  rw [Bool.and_eq_true, decide_eq_true_eq] at hc
  obtain ⟨hdg, hc⟩ := hc
  rw [Bool.and_eq_true, decide_eq_true_eq] at hc
  obtain ⟨hn1, hc⟩ := hc
  subst hn1
  by_cases ha0 : a = 9002
  · rw [if_pos ha0] at hc h
    rw [Bool.and_eq_true, decide_eq_true_eq] at hc
    obtain ⟨y, t, rfl, h1⟩ := zpI_some h
    obtain ⟨x, t, rfl, h2⟩ := zpI_some h1
    obtain ⟨h3, h4⟩ := gd_some h2
    exact zt_max hc.1 (Nat.le_of_ble_eq_true h3) ⟨zwd_in hc.2, zJw_at 7 rfl, zJw_at 8 rfl, zJw_at 9 rfl⟩ hdg (IH rfl _ _ _ _ h4)
  · rw [if_neg ha0] at hc h
    by_cases ha1 : a = 9003
    · rw [if_pos ha1] at hc h
      rw [Bool.and_eq_true, decide_eq_true_eq] at hc
      obtain ⟨y, t, rfl, h1⟩ := zpI_some h
      obtain ⟨x, t, rfl, h2⟩ := zpI_some h1
      obtain ⟨h3, h4⟩ := gd_some h2
      exact zt_min hc.1 (Nat.le_of_ble_eq_true h3) ⟨zwd_in hc.2, zJw_at 10 rfl, zJw_at 8 rfl, zJw_at 11 rfl⟩ hdg (IH rfl _ _ _ _ h4)
    · rw [if_neg ha1] at hc h
      by_cases ha2 : a = 9004
      · rw [if_pos ha2] at hc h
        rw [Bool.and_eq_true, decide_eq_true_eq] at hc
        obtain ⟨n0, t, rfl, h1⟩ := zpI_some h
        obtain ⟨dp, t, rfl, h2⟩ := zpI_some h1
        obtain ⟨k1, i1, t, rfl, h3⟩ := zpR_some h2
        obtain ⟨sp, t, rfl, h4⟩ := zpI_some h3
        obtain ⟨k, i, t, rfl, h5⟩ := zpR_some h4
        obtain ⟨h6, h7⟩ := gd_some h5
        rw [Bool.and_eq_true, Bool.and_eq_true] at h6
        split at h7
        · cases h7
        · rename_i hh
          exact zt_copy hX (by simpa using h6.1.1) (by simpa using h6.1.2) hc.1 (Nat.le_of_ble_eq_true h6.2) hh ⟨zwd_in hc.2, zJw_at 12 rfl, zJw_at 13 rfl, zJw_at 14 rfl⟩ hdg (IH rfl _ _ _ _ h7)
      · rw [if_neg ha2] at hc h
        simp only [Bool.and_eq_true, decide_eq_true_eq] at hc
        obtain ⟨⟨⟨⟨⟨k1, k2⟩, k3⟩, k4⟩, k5⟩, k6⟩ := hc
        obtain ⟨h10, h11⟩ := gd_some h
        exact zt_callS hX hCS (zmok_all _ (Nat.le_of_ble_eq_true k1)) k5 k2 k6 k3 (zml_w hm k4.1 k4.2) hdg (IH rfl) (Nat.le_of_ble_eq_true h10) h11
theorem zv_ireturn (hY : zHY X m C) (HG : ∀ t σ L st r, G t σ L st = some r → zGW X m kr t σ L st r) {es : List zEnt} {pc n a b ww u : Nat} {cf : Nat × Nat × Nat} {k32 : Int32} {k64 : Int64} {sw : List (Int32 × Nat)}  (hc : zchE m (pc, .ireturn, n, (a, b, ww, u), cf, k32, k64, sw) = true) (IH : ztm .ireturn = false → ∀ σ L st r, zev C G (mRc m) kr es σ L st = some r → zGW X m kr (pc + n) σ L st r) {σ : zH} {L st : List zAV} {r : ρ} (h : zev C G (mRc m) kr ((pc, .ireturn, n, (a, b, ww, u), cf, k32, k64, sw) :: es) σ L st = some r) : zGW X m kr pc σ L st r := by
  obtain ⟨hX, hbd, hJl, hJc, hCS, hm⟩ := hY
  unfold zev at h
  unfold zchE at hc
  dsimp only [eA, eB, eW, eU, eF, eK, eJ, eS] at hc h
  rw [Bool.and_eq_true, decide_eq_true_eq] at hc
  obtain ⟨hdg, hc⟩ := hc
  simp only [Bool.and_eq_true, decide_eq_true_eq] at hc
  subst hc
  rcases st with _ | ⟨x | x | x | x, _ | ⟨y, t⟩⟩
  · cases h
  · rcases hR : mRc m with _ | _ | q
    · rw [hR] at h; exact zt_ireturn0 ((zmok_R hm).1 hR) hdg h
    · rw [hR] at h
      obtain ⟨h1, h2⟩ := tv_some (show tv x (kr σ (vI x)) = some r from h)
      exact zt_ireturn1 ((zmok_R hm).2.1 hR) h1 hdg h2
    · rw [hR] at h; cases h
  · cases h
  · cases h
  · cases h
  · cases h
  · cases h
  · cases h
  · cases h
theorem zv_lreturn (hY : zHY X m C) (HG : ∀ t σ L st r, G t σ L st = some r → zGW X m kr t σ L st r) {es : List zEnt} {pc n a b ww u : Nat} {cf : Nat × Nat × Nat} {k32 : Int32} {k64 : Int64} {sw : List (Int32 × Nat)}  (hc : zchE m (pc, .lreturn, n, (a, b, ww, u), cf, k32, k64, sw) = true) (IH : ztm .lreturn = false → ∀ σ L st r, zev C G (mRc m) kr es σ L st = some r → zGW X m kr (pc + n) σ L st r) {σ : zH} {L st : List zAV} {r : ρ} (h : zev C G (mRc m) kr ((pc, .lreturn, n, (a, b, ww, u), cf, k32, k64, sw) :: es) σ L st = some r) : zGW X m kr pc σ L st r := by
  obtain ⟨hX, hbd, hJl, hJc, hCS, hm⟩ := hY
  unfold zev at h
  unfold zchE at hc
  dsimp only [eA, eB, eW, eU, eF, eK, eJ, eS] at hc h
  rw [Bool.and_eq_true, decide_eq_true_eq] at hc
  obtain ⟨hdg, hc⟩ := hc
  simp only [Bool.and_eq_true, decide_eq_true_eq] at hc
  subst hc
  rcases st with _ | ⟨x | x | x | x, _ | ⟨y, t⟩⟩
  · cases h
  · cases h
  · cases h
  · rcases hR : mRc m with _ | _ | _ | _ | q
    · rw [hR] at h; cases h
    · rw [hR] at h; cases h
    · rw [hR] at h; cases h
    · rw [hR] at h; exact zt_lreturn ((zmok_R hm).2.2.1 hR) hdg h
    · rw [hR] at h; cases h
  · cases h
  · cases h
  · cases h
  · cases h
  · cases h
theorem zv_areturn (hY : zHY X m C) (HG : ∀ t σ L st r, G t σ L st = some r → zGW X m kr t σ L st r) {es : List zEnt} {pc n a b ww u : Nat} {cf : Nat × Nat × Nat} {k32 : Int32} {k64 : Int64} {sw : List (Int32 × Nat)}  (hc : zchE m (pc, .areturn, n, (a, b, ww, u), cf, k32, k64, sw) = true) (IH : ztm .areturn = false → ∀ σ L st r, zev C G (mRc m) kr es σ L st = some r → zGW X m kr (pc + n) σ L st r) {σ : zH} {L st : List zAV} {r : ρ} (h : zev C G (mRc m) kr ((pc, .areturn, n, (a, b, ww, u), cf, k32, k64, sw) :: es) σ L st = some r) : zGW X m kr pc σ L st r := by
  obtain ⟨hX, hbd, hJl, hJc, hCS, hm⟩ := hY
  unfold zev at h
  unfold zchE at hc
  dsimp only [eA, eB, eW, eU, eF, eK, eJ, eS] at hc h
  rw [Bool.and_eq_true, decide_eq_true_eq] at hc
  obtain ⟨hdg, hc⟩ := hc
  simp only [Bool.and_eq_true, decide_eq_true_eq] at hc
  subst hc
  rcases st with _ | ⟨x | x | x | x, _ | ⟨y, t⟩⟩
  · cases h
  · cases h
  · cases h
  · cases h
  · cases h
  · rcases hR : mRc m with _ | _ | _ | _ | _ | q
    · rw [hR] at h; cases h
    · rw [hR] at h; cases h
    · rw [hR] at h; cases h
    · rw [hR] at h; cases h
    · rw [hR] at h; exact zt_areturn ((zmok_R hm).2.2.2.1 hR) hdg h
    · rw [hR] at h; cases h
  · cases h
  · cases h
  · cases h
theorem zv_return_ (hY : zHY X m C) (HG : ∀ t σ L st r, G t σ L st = some r → zGW X m kr t σ L st r) {es : List zEnt} {pc n a b ww u : Nat} {cf : Nat × Nat × Nat} {k32 : Int32} {k64 : Int64} {sw : List (Int32 × Nat)}  (hc : zchE m (pc, .return_, n, (a, b, ww, u), cf, k32, k64, sw) = true) (IH : ztm .return_ = false → ∀ σ L st r, zev C G (mRc m) kr es σ L st = some r → zGW X m kr (pc + n) σ L st r) {σ : zH} {L st : List zAV} {r : ρ} (h : zev C G (mRc m) kr ((pc, .return_, n, (a, b, ww, u), cf, k32, k64, sw) :: es) σ L st = some r) : zGW X m kr pc σ L st r := by
  obtain ⟨hX, hbd, hJl, hJc, hCS, hm⟩ := hY
  unfold zev at h
  unfold zchE at hc
  dsimp only [eA, eB, eW, eU, eF, eK, eJ, eS] at hc h
  rw [Bool.and_eq_true, decide_eq_true_eq] at hc
  obtain ⟨hdg, hc⟩ := hc
  simp only [Bool.and_eq_true, decide_eq_true_eq] at hc
  subst hc
  rcases st with _ | ⟨x, t⟩
  · by_cases hR : mRc m = 9
    · exact zt_return ((zmok_R hm).2.2.2.2 hR) hdg (by
        have h9 : (if mRc m = 9 then kr σ vU else none) = some r := h
        rw [if_pos hR] at h9
        exact h9)
    · have h9 : (if mRc m = 9 then kr σ vU else none) = some r := h
      rw [if_neg hR] at h9
      cases h9
  · cases h
theorem zev_one (hY : zHY X m C) (HG : ∀ t σ L st r, G t σ L st = some r → zGW X m kr t σ L st r) {es : List zEnt} {e : zEnt} (hc : zchE m e = true) (IH : ztm e.2.1 = false → ∀ σ L st r, zev C G (mRc m) kr es σ L st = some r → zGW X m kr (e.1 + e.2.2.1) σ L st r) {σ : zH} {L st : List zAV} {r : ρ} (h : zev C G (mRc m) kr (e :: es) σ L st = some r) : zGW X m kr e.1 σ L st r := by
  obtain ⟨pc, i, n, ⟨a, b, ww, u⟩, cf, k32, k64, sw⟩ := e
  cases i
  case iconst => exact zv_iconst hY HG hc IH h
  case bipush => exact zv_bipush hY HG hc IH h
  case sipush => exact zv_sipush hY HG hc IH h
  case lconst => exact zv_lconst hY HG hc IH h
  case ldc => exact zv_ldc hY HG hc IH h
  case ldc_w => exact zv_ldc_w hY HG hc IH h
  case ldc2_w => exact zv_ldc2_w hY HG hc IH h
  case iload_n => exact zv_iload_n hY HG hc IH h
  case lload_n => exact zv_lload_n hY HG hc IH h
  case aload_n => exact zv_aload_n hY HG hc IH h
  case iload => exact zv_iload hY HG hc IH h
  case lload => exact zv_lload hY HG hc IH h
  case aload => exact zv_aload hY HG hc IH h
  case istore_n => exact zv_istore_n hY HG hc IH h
  case astore_n => exact zv_astore_n hY HG hc IH h
  case lstore_n => exact zv_lstore_n hY HG hc IH h
  case istore => exact zv_istore hY HG hc IH h
  case astore => exact zv_astore hY HG hc IH h
  case lstore => exact zv_lstore hY HG hc IH h
  case iinc => exact zv_iinc hY HG hc IH h
  case iadd => exact zv_iadd hY HG hc IH h
  case isub => exact zv_isub hY HG hc IH h
  case imul => exact zv_imul hY HG hc IH h
  case iand => exact zv_iand hY HG hc IH h
  case ior => exact zv_ior hY HG hc IH h
  case ixor => exact zv_ixor hY HG hc IH h
  case ishl => exact zv_ishl hY HG hc IH h
  case ishr => exact zv_ishr hY HG hc IH h
  case iushr => exact zv_iushr hY HG hc IH h
  case idiv => exact zv_idiv hY HG hc IH h
  case irem => exact zv_irem hY HG hc IH h
  case ladd => exact zv_ladd hY HG hc IH h
  case lsub => exact zv_lsub hY HG hc IH h
  case lmul => exact zv_lmul hY HG hc IH h
  case land => exact zv_land hY HG hc IH h
  case lor => exact zv_lor hY HG hc IH h
  case ldiv => exact zv_ldiv hY HG hc IH h
  case lrem => exact zv_lrem hY HG hc IH h
  case lcmp => exact zv_lcmp hY HG hc IH h
  case i2l => exact zv_i2l hY HG hc IH h
  case l2i => exact zv_l2i hY HG hc IH h
  case i2b => exact zv_i2b hY HG hc IH h
  case dup => exact zv_dup hY HG hc IH h
  case pop => exact zv_pop hY HG hc IH h
  case dup2 => exact zv_dup2 hY HG hc IH h
  case iaload => exact zv_iaload hY HG hc IH h
  case baload => exact zv_baload hY HG hc IH h
  case laload => exact zv_laload hY HG hc IH h
  case aaload => exact zv_aaload hY HG hc IH h
  case arraylength => exact zv_arraylength hY HG hc IH h
  case iastore => exact zv_iastore hY HG hc IH h
  case bastore => exact zv_bastore hY HG hc IH h
  case lastore => exact zv_lastore hY HG hc IH h
  case goto => exact zv_goto hY HG hc IH h
  case ifCond c off => cases c <;> first | exact zv_ifond_eq hY HG hc IH h | exact zv_ifond_ne hY HG hc IH h | exact zv_ifond_lt hY HG hc IH h | exact zv_ifond_ge hY HG hc IH h | exact zv_ifond_gt hY HG hc IH h | exact zv_ifond_le hY HG hc IH h
  case if_icmp c off => cases c <;> first | exact zv_if_icmp_eq hY HG hc IH h | exact zv_if_icmp_ne hY HG hc IH h | exact zv_if_icmp_lt hY HG hc IH h | exact zv_if_icmp_ge hY HG hc IH h | exact zv_if_icmp_gt hY HG hc IH h | exact zv_if_icmp_le hY HG hc IH h
  case tableswitch => exact zv_tableswitch hY HG hc IH h
  case lookupswitch => exact zv_lookupswitch hY HG hc IH h
  case getfield => exact zv_getfield hY HG hc IH h
  case putfield => exact zv_putfield hY HG hc IH h
  case invokevirtual => exact zv_invokevirtual hY HG hc IH h
  case invokestatic => exact zv_invokestatic hY HG hc IH h
  case ireturn => exact zv_ireturn hY HG hc IH h
  case lreturn => exact zv_lreturn hY HG hc IH h
  case areturn => exact zv_areturn hY HG hc IH h
  case return_ => exact zv_return_ hY HG hc IH h
  all_goals (unfold zchE at hc; dsimp only at hc; rw [Bool.and_false] at hc; cases hc)
end
