/-! THE JDK's OWN METHODS: length and charAt of the texts -/
set_option maxRecDepth 100000 in
theorem zKw : ([.fieldLink RJ0 38 "java/lang/String" "COMPACT_STRINGS" "Z", .fieldLink RJ0 15 "java/lang/String" "coder" "B", .fieldLink RJ0 9 "java/lang/String" "value" "[B", .methodLink RJ0 335 yJ0_coder_7d493, .instanceMethod yJ0_coder_7d493, .selects RJ0 yJ0_coder_7d493 yJ0_coder_7d493, .initialized RJ0, .code yJ0_coder_7d493 cJ0_coder_7d493 1 (some .byte), .methodLink RJ0 492 yJ0_isLatin1_aae02, .instanceMethod yJ0_isLatin1_aae02, .selects RJ0 yJ0_isLatin1_aae02 yJ0_isLatin1_aae02, .code yJ0_isLatin1_aae02 cJ0_isLatin1_aae02 1 (some .boolean), .methodLink RJ0 495 yJ1_charAt_3b067, .static yJ1_charAt_3b067, .initialized RJ1, .code yJ1_charAt_3b067 cJ1_charAt_3b067 2 (some .char), .methodLink RJ1 9 yJ0_checkIndex_df160, .static yJ0_checkIndex_df160, .code yJ0_checkIndex_df160 cJ0_checkIndex_df160 2 none, .fieldLink RJ0 1053 "jdk/internal/util/Preconditions" "SIOOBE_FORMATTER" "Ljava/util/function/BiFunction;", .methodLink RJ0 1059 yJ3_checkIndex_8e157, .static yJ3_checkIndex_8e157, .initialized RJ3, .code yJ3_checkIndex_8e157 cJ3_checkIndex_8e157 3 (some .int)] : List Cond).all (fun w => lw_good.contains w) = true := by decide +kernel
theorem zKw_at (i : Nat) {w : Cond} (h : ([.fieldLink RJ0 38 "java/lang/String" "COMPACT_STRINGS" "Z", .fieldLink RJ0 15 "java/lang/String" "coder" "B", .fieldLink RJ0 9 "java/lang/String" "value" "[B", .methodLink RJ0 335 yJ0_coder_7d493, .instanceMethod yJ0_coder_7d493, .selects RJ0 yJ0_coder_7d493 yJ0_coder_7d493, .initialized RJ0, .code yJ0_coder_7d493 cJ0_coder_7d493 1 (some .byte), .methodLink RJ0 492 yJ0_isLatin1_aae02, .instanceMethod yJ0_isLatin1_aae02, .selects RJ0 yJ0_isLatin1_aae02 yJ0_isLatin1_aae02, .code yJ0_isLatin1_aae02 cJ0_isLatin1_aae02 1 (some .boolean), .methodLink RJ0 495 yJ1_charAt_3b067, .static yJ1_charAt_3b067, .initialized RJ1, .code yJ1_charAt_3b067 cJ1_charAt_3b067 2 (some .char), .methodLink RJ1 9 yJ0_checkIndex_df160, .static yJ0_checkIndex_df160, .code yJ0_checkIndex_df160 cJ0_checkIndex_df160 2 none, .fieldLink RJ0 1053 "jdk/internal/util/Preconditions" "SIOOBE_FORMATTER" "Ljava/util/function/BiFunction;", .methodLink RJ0 1059 yJ3_checkIndex_8e157, .static yJ3_checkIndex_8e157, .initialized RJ3, .code yJ3_checkIndex_8e157 cJ3_checkIndex_8e157 3 (some .int)] : List Cond)[i]? = some w) : w ∈ lw_good := by
  have := List.all_eq_true.mp zKw w (List.mem_of_getElem? h)
  simpa using this
/-- what stands at a walk of a method outside the tables -/
def zCy (X : zX) (y : MethodName) (b : ByteArray) (n : Nat) (ret : Option FieldType) (p : Program) (s : State) (args : Array Value) (mi : MethodId) (meth : Method) (c : Code) : Prop :=
  p.tables.exec = Jvm.exec ∧ c.code = b ∧ c.maxLocals = n ∧ meth.sig.returnType = ret ∧ s.vm.findClass y.cls = some mi.cls ∧ (∀ w ∈ lw_good, w.before args s = true) ∧ meth.locks = false ∧ va_K (zD X) zcls (ztys X) s ∧ zStr X s s.heap
def zMy (X : zX) (y : MethodName) (b : ByteArray) (n : Nat) (ret : Option FieldType) (d : Nat) (As : List Value) (σ : zH) (v : zAV) : Prop :=
  Met (zl X) y (Cond.code y b n ret :: lw_good) (zrm d) (va_Pc As (zPU X σ)) (zQ X σ v) 0 0 (zA X)
theorem zMy_of {X : zX} {y : MethodName} {b : ByteArray} {n : Nat} {ret : Option FieldType} {d : Nat} {As : List Value} {σ : zH} {v : zAV} (hy : plainName y.cls = true) (hn : (lg_sl As).length ≤ n)
    (h : ∀ (p : Program) (e : Env) (s : State) (mi : MethodId) (args : Array Value) (below : List Frame) (meth : Method) (c : Code) (ls : Array Slot), zCy X y b n ret p s args mi meth c → lv_has ls n (lv_args 0 As) → va_P (zD X) zcls (zw X σ) s.heap →
      W p (zl X) e (zrm d) s mi args below meth c s.heap [] 0 0 (MQ below (zQ X σ v) args s 0 0 (zA X)) (F0 mi 0 ls [])) : zMy X y b n ret d As σ v := by
  refine Met.ofW (cc := b) (maxL := n) (ret := ret) hy rfl ?_
  intro p e s mi args below meth c s₁ B hml hpc
  obtain ⟨rfl, hK, hP, hS⟩ := hpc
  have hts := atoms_spec (ws := Cond.code y b n ret :: lw_good) B.pre
  have hown : s.vm.findClass y.cls = some mi.cls := findClass_of_methodNamed B.named
  rw [lg_entry_eq]
  exact h p e s mi _ below meth c _ ⟨B.exec, B.bytes, hml, B.returns, hown, fun w hw => hts w (List.mem_cons_of_mem _ hw), B.notSynchronized, hK, hS⟩ (lv_entry As hn) hP
section
variable {X : zX} {y0 : MethodName} {b0 : ByteArray} {n0 : Nat} {r0 : Option FieldType} {p : Program} {e : Env} {s : State} {mi : MethodId} {args : Array Value} {below : List Frame} {meth : Method} {c : Code} {H : Heap} {locs : List Loc} {ls : Array Slot} {pc D : Nat} {σ : zH} {Q : State → Prop}
theorem zgood_code {y : MethodName} {b : ByteArray} {n : Nat} {ret : Option FieldType} (hc : Cond.code y b n ret ∈ lw_good) : GoodIn lw_good (Cond.code y b n ret :: lw_good) := fun w hw => by
  rcases List.mem_cons.mp hw with rfl | q
  · exact ⟨hc, zgood_all _ hc⟩
  · exact ⟨q, zgood_all _ q⟩
theorem zy_callS {y : MethodName} {b : ByteArray} {n d k z : Nat} {ret : Option FieldType} {As rest : List Value} {v : zAV} (hM : zMy X y b n ret d As σ v) (hC : zCy X y0 b0 n0 r0 p s args mi meth c) (hP : va_P (zD X) zcls (zw X σ) H) (hS : va_S (zA X) s.heap H locs) (hls : ls.size = n0)
    (hcode : Cond.code y b n ret ∈ lw_good) (hst : Cond.static y ∈ lw_good) (hini : Cond.initialized y.cls ∈ lw_good) (hw : Cond.methodLink y0.cls z y ∈ lw_good) (hd : y.cls ≠ "java/lang/invoke/MethodHandle" ∧ y.cls ≠ "java/lang/invoke/VarHandle" ∧ (parseMethodDescriptor y.desc).map (fun d => d.parameters.length) = some k) (hk : As.length = k) (hml : n ≤ 11) (hD : d + 1 ≤ D)
    (hrest : (rest.map fun v => v.category).sum ≤ 8) (hdg : decode b0 pc = .ok (.invokestatic z, 3))
    (kk : ∀ (H1 : Heap) (locs1 : List Loc), va_P (zD X) zcls (zw X σ) H1 → va_S (zA X) s.heap H1 locs1 → W p (zl X) e (zrm D) s mi args below meth c H1 locs1 0 0 Q (F0 mi (pc + 3) ls ((zrv X v).toList ++ rest))) :
    W p (zl X) e (zrm D) s mi args below meth c H locs 0 0 Q (F0 mi pc ls (As.reverse ++ rest)) := by
  have hrun := va_runS (p := p) (e := e) (R := zrm D) (below := below) (meth := meth) (H := H) (locs := locs) (cells := 0) (slots := 0) (As := As) (rest := rest) (n := k) (index := z) (g := F0 mi pc ls (As.reverse ++ rest))
    ⟨hC.1, hC.2.1, hC.2.2.1, hC.2.2.2.2.1, hC.2.2.2.2.2.1⟩ hM
    ⟨callB_of k hC.2.2.2.2.2.1 (zgood_code hcode) rfl rfl rfl (hC.2.2.2.2.2.1 _ hini) (hC.2.2.2.2.2.1 _ hw) hd ⟨by rw [zrm_f, zrm_f]; exact hD, by rw [zrm_l, zrm_l]; omega⟩, hC.2.2.2.2.2.1 _ hst⟩
    ⟨zPU_blind X _ σ, fun U hU hW => ⟨rfl, va_K.moved hW.alike hC.2.2.2.2.2.2.2.1, by rw [hU]; exact hP, zStr_U hC.2.2.2.2.2.2.2.2 hS hU hW⟩⟩
    rfl hk hls rfl (lv_room hrest) hdg ⟨Nat.zero_le _, Nat.zero_le _⟩
  exact zrun_go hrun hS kk
theorem zy_callV {y : MethodName} {b : ByteArray} {n d k z t : Nat} {ret : Option FieldType} {As rest : List Value} {v : zAV} (hM : zMy X y b n ret d (.ref (zad X 200 t) :: As) σ v) (hC : zCy X y0 b0 n0 r0 p s args mi meth c) (hP : va_P (zD X) zcls (zw X σ) H) (hS : va_S (zA X) s.heap H locs) (hls : ls.size = n0) (ht : t < zNS)
    (hcode : Cond.code y b n ret ∈ lw_good) (hin : Cond.instanceMethod y ∈ lw_good) (hse : Cond.selects "java/lang/String" y y ∈ lw_good) (hini : Cond.initialized "java/lang/String" ∈ lw_good) (hw : Cond.methodLink y0.cls z y ∈ lw_good) (hy : y.cls = "java/lang/String") (hpd : (parseMethodDescriptor y.desc).map (fun d => d.parameters.length) = some k) (hk : As.length = k) (hml : n ≤ 11) (hD : d + 1 ≤ D)
    (hrest : (rest.map fun v => v.category).sum ≤ 8) (hdg : decode b0 pc = .ok (.invokevirtual z, 3))
    (kk : ∀ (H1 : Heap) (locs1 : List Loc), va_P (zD X) zcls (zw X σ) H1 → va_S (zA X) s.heap H1 locs1 → W p (zl X) e (zrm D) s mi args below meth c H1 locs1 0 0 Q (F0 mi (pc + 3) ls ((zrv X v).toList ++ rest))) :
    W p (zl X) e (zrm D) s mi args below meth c H locs 0 0 Q (F0 mi pc ls (As.reverse ++ .ref (zad X 200 t) :: rest)) := by
  have hcell := vk_recv (hC.2.2.2.2.2.2.2.2 t ht).1 (Nat.zero_lt_one) hS
  have hrun := va_runV (p := p) (e := e) (R := zrm D) (below := below) (meth := meth) (H := H) (locs := locs) (cells := 0) (slots := 0) (As := As) (rest := rest) (b := zad X 200 t) (C := "java/lang/String") (n := k) (index := z) (g := F0 mi pc ls (As.reverse ++ .ref (zad X 200 t) :: rest))
    ⟨hC.1, hC.2.1, hC.2.2.1, hC.2.2.2.2.1, hC.2.2.2.2.2.1⟩ hM
    (cwV k hC.2.2.2.2.2.1 (fun w hw2 => by
      rcases List.mem_append.mp hw2 with q | q
      · have q2 : w = .methodLink y0.cls z y ∨ w = .instanceMethod y ∨ w = .selects "java/lang/String" y y ∨ w = .initialized "java/lang/String" := by simpa using q
        have q3 : w ∈ lw_good := by
          rcases q2 with rfl | rfl | rfl | rfl
          · exact hw
          · exact hin
          · exact hse
          · exact hini
        exact ⟨q3, zgood_all _ q3⟩
      · exact zgood_code hcode w q) rfl rfl rfl ⟨hy, by rw [hy]; decide, by rw [hy]; decide, hpd⟩ ⟨by rw [zrm_f, zrm_f]; exact hD, by rw [zrm_l, zrm_l]; omega⟩)
    ⟨zPU_blind X _ σ, hcell, fun U hU hW => ⟨rfl, va_K.moved hW.alike hC.2.2.2.2.2.2.2.1, by rw [hU]; exact hP, zStr_U hC.2.2.2.2.2.2.2.2 hS hU hW⟩⟩
    rfl hk hls rfl (lv_room hrest) hdg ⟨Nat.zero_le _, Nat.zero_le _⟩
  exact zrun_go hrun hS kk
end
theorem zy_end {X : zX} {σ : zH} {s : State} {H : Heap} {locs : List Loc} {args : Array Value} {v : zAV} {o : Option Value} (hP : va_P (zD X) zcls (zw X σ) H) (hS : va_S (zA X) s.heap H locs) (ho : o = zrv X v) : ∀ t : State, t.heap = H → s.WarmedH t.vm → zQ X σ v args s (.returned o) t := fun t ht _ => ⟨by rw [ho], by rw [ht]; exact hP, hS.F ht⟩
theorem zj_coder {X : zX} {σ : zH} {t : Nat} (ht : t < zNS) : zMy X yJ0_coder_7d493 cJ0_coder_7d493 1 (some .byte) 0 [.ref (zad X 200 t)] σ (vI 0) := by
  refine zMy_of (by decide) (Nat.le_of_ble_eq_true rfl) (fun p e s mi args below meth c ls hC hl hP => ?_)
  obtain ⟨hx, hb, hml, hr, hown, hts, hlocks, hK, hZ⟩ := hC
  have hS : va_S (zA X) s.heap s.heap [] := va_S.rf
  have hl : lv_has ls 1 [(0, .ref (zad X 200 t))] := hl
  obtain ⟨hT, -, hCS, hSI⟩ := hZ t ht
  refine va_gets hx hb hCS hS hown (hts (.fieldLink RJ0 38 "java/lang/String" "COMPACT_STRINGS" "Z") (zKw_at 0 rfl)) (fun _ h9 => h9) (show decode cJ0_coder_7d493 0 = .ok (.getstatic 38, 3) by decide +kernel) ?_
  refine lv_if_eq (tgt := 13) hx hb (show decode cJ0_coder_7d493 3 = .ok (.ifCond .eq 10, 3) by decide +kernel) rfl (fun h => absurd h (by decide)) (fun _ => ?_)
  refine lv_aload_n hx hb (show decode cJ0_coder_7d493 6 = .ok (.aload_n 0, 1) by decide +kernel) rfl (lv_at hl 0 rfl) ?_
  refine vk_getf hx hb (hT.1 0 Nat.zero_lt_one).2.1 hS hown (hts (.fieldLink RJ0 15 "java/lang/String" "coder" "B") (zKw_at 1 rfl)) (fun _ h9 => h9) (show decode cJ0_coder_7d493 7 = .ok (.getfield 15, 3) by decide +kernel) ?_
  refine lv_goto (tgt := 14) hx hb (show decode cJ0_coder_7d493 10 = .ok (.goto 4, 3) by decide +kernel) rfl ?_
  exact W.zret hx hb hr rfl (zy_end hP hS rfl) hS.2.2 (show decode cJ0_coder_7d493 14 = .ok (.ireturn, 1) by decide +kernel)
theorem zj_isLatin1 {X : zX} {σ : zH} {t : Nat} (ht : t < zNS) : zMy X yJ0_isLatin1_aae02 cJ0_isLatin1_aae02 1 (some .boolean) 0 [.ref (zad X 200 t)] σ (vI 1) := by
  refine zMy_of (by decide) (Nat.le_of_ble_eq_true rfl) (fun p e s mi args below meth c ls hC hl hP => ?_)
  obtain ⟨hx, hb, hml, hr, hown, hts, hlocks, hK, hZ⟩ := hC
  have hS : va_S (zA X) s.heap s.heap [] := va_S.rf
  have hl : lv_has ls 1 [(0, .ref (zad X 200 t))] := hl
  obtain ⟨hT, -, hCS, hSI⟩ := hZ t ht
  refine va_gets hx hb hCS hS hown (hts (.fieldLink RJ0 38 "java/lang/String" "COMPACT_STRINGS" "Z") (zKw_at 0 rfl)) (fun _ h9 => h9) (show decode cJ0_isLatin1_aae02 0 = .ok (.getstatic 38, 3) by decide +kernel) ?_
  refine lv_if_eq (tgt := 17) hx hb (show decode cJ0_isLatin1_aae02 3 = .ok (.ifCond .eq 14, 3) by decide +kernel) rfl (fun h => absurd h (by decide)) (fun _ => ?_)
  refine lv_aload_n hx hb (show decode cJ0_isLatin1_aae02 6 = .ok (.aload_n 0, 1) by decide +kernel) rfl (lv_at hl 0 rfl) ?_
  refine vk_getf hx hb (hT.1 0 Nat.zero_lt_one).2.1 hS hown (hts (.fieldLink RJ0 15 "java/lang/String" "coder" "B") (zKw_at 1 rfl)) (fun _ h9 => h9) (show decode cJ0_isLatin1_aae02 7 = .ok (.getfield 15, 3) by decide +kernel) ?_
  refine lv_if_ne (tgt := 17) hx hb (show decode cJ0_isLatin1_aae02 10 = .ok (.ifCond .ne 7, 3) by decide +kernel) rfl (fun h => absurd rfl h) (fun _ => ?_)
  refine lv_iconst (v := 1) hx hb (show decode cJ0_isLatin1_aae02 13 = .ok (.iconst 1, 1) by decide +kernel) (by decide) ?_
  refine lv_goto (tgt := 18) hx hb (show decode cJ0_isLatin1_aae02 14 = .ok (.goto 4, 3) by decide +kernel) rfl ?_
  exact W.zret hx hb hr rfl (zy_end hP hS rfl) hS.2.2 (show decode cJ0_isLatin1_aae02 18 = .ok (.ireturn, 1) by decide +kernel)
/-- checkIndex of Preconditions, in bounds -/
theorem zj_check3 {X : zX} {σ : zH} {i n : Int32} {q : Value} (hq : q = .null ∨ ∃ a, q = .ref a) (h0 : ¬ i < 0) (h1 : i < n) : zMy X yJ3_checkIndex_8e157 cJ3_checkIndex_8e157 3 (some .int) 0 [.int i, .int n, q] σ (vI i) := by
  refine zMy_of (by decide) (by rcases hq with rfl | ⟨a, rfl⟩ <;> exact Nat.le_of_ble_eq_true rfl) (fun p e s mi args below meth c ls hC hl hP => ?_)
  obtain ⟨hx, hb, hml, hr, hown, hts, hlocks, hK, hZ⟩ := hC
  have hS : va_S (zA X) s.heap s.heap [] := va_S.rf
  have hl : lv_has ls 3 [(0, .int i), (1, .int n), (2, q)] := by rcases hq with rfl | ⟨a, rfl⟩ <;> exact hl
  refine lv_iload_n hx hb (show decode cJ3_checkIndex_8e157 0 = .ok (.iload_n 0, 1) by decide +kernel) rfl (lv_at hl 0 rfl) ?_
  refine lv_if_lt (tgt := 9) hx hb (show decode cJ3_checkIndex_8e157 1 = .ok (.ifCond .lt 8, 3) by decide +kernel) rfl (fun h => absurd h h0) (fun _ => ?_)
  refine lv_iload_n hx hb (show decode cJ3_checkIndex_8e157 4 = .ok (.iload_n 0, 1) by decide +kernel) rfl (lv_at hl 0 rfl) ?_
  refine lv_iload_n hx hb (show decode cJ3_checkIndex_8e157 5 = .ok (.iload_n 1, 1) by decide +kernel) rfl (lv_at hl 1 rfl) ?_
  refine lv_icmp_lt (tgt := 16) hx hb (show decode cJ3_checkIndex_8e157 6 = .ok (.if_icmp .lt 10, 3) by decide +kernel) rfl (fun _ => ?_) (fun h => absurd h1 h)
  refine lv_iload_n hx hb (show decode cJ3_checkIndex_8e157 16 = .ok (.iload_n 0, 1) by decide +kernel) rfl (lv_at hl 0 rfl) ?_
  exact W.iret hx hb hr (zy_end hP hS rfl) hS.2.2 (show decode cJ3_checkIndex_8e157 17 = .ok (.ireturn, 1) by decide +kernel)
theorem zj_check0 {X : zX} {σ : zH} {i n : Int32} (h0 : ¬ i < 0) (h1 : i < n) : zMy X yJ0_checkIndex_df160 cJ0_checkIndex_df160 2 none 1 [.int i, .int n] σ vU := by
  refine zMy_of (by decide) (Nat.le_of_ble_eq_true rfl) (fun p e s mi args below meth c ls hC hl hP => ?_)
  have hC0 := hC
  obtain ⟨hx, hb, hml, hr, hown, hts, hlocks, hK, hZ⟩ := hC
  have hS : va_S (zA X) s.heap s.heap [] := va_S.rf
  have hl : lv_has ls 2 [(0, .int i), (1, .int n)] := hl
  obtain ⟨-, -, -, hSI⟩ := hZ 0 (by decide)
  have hSI : ∃ q : Value, (q = .null ∨ ∃ a, q = .ref a) ∧ va_Z "jdk/internal/util/Preconditions" "SIOOBE_FORMATTER" "Ljava/util/function/BiFunction;" q (zA X) s s.heap := by
    rcases hSI with h | ⟨a, h⟩
    · exact ⟨_, Or.inl rfl, h⟩
    · exact ⟨_, Or.inr ⟨a, rfl⟩, h⟩
  obtain ⟨q, hq, hSI⟩ := hSI
  refine lv_iload_n hx hb (show decode cJ0_checkIndex_df160 0 = .ok (.iload_n 0, 1) by decide +kernel) rfl (lv_at hl 0 rfl) ?_
  refine lv_iload_n hx hb (show decode cJ0_checkIndex_df160 1 = .ok (.iload_n 1, 1) by decide +kernel) rfl (lv_at hl 1 rfl) ?_
  refine va_gets hx hb hSI hS hown (hts (.fieldLink RJ0 1053 "jdk/internal/util/Preconditions" "SIOOBE_FORMATTER" "Ljava/util/function/BiFunction;") (zKw_at 19 rfl)) (fun _ h9 => h9) (show decode cJ0_checkIndex_df160 2 = .ok (.getstatic 1053, 3) by decide +kernel) ?_
  refine zy_callS (rest := []) (k := 3) (zj_check3 (σ := σ) hq h0 h1) hC0 hP hS hl.1 (zKw_at 23 rfl) (zKw_at 21 rfl) (zKw_at 22 rfl) (zKw_at 20 rfl) ⟨by decide, by decide, by decide +kernel⟩ rfl (by decide) (by decide) (by decide) (show decode cJ0_checkIndex_df160 5 = .ok (.invokestatic 1059, 3) by decide +kernel) (fun H1 locs1 hP hS => ?_)
  refine lv_pop hx hb (va := .int i) (show decode cJ0_checkIndex_df160 8 = .ok (.pop, 1) by decide +kernel) rfl ?_
  exact W.vret hx hb hr (zy_end hP hS rfl) hS.2.2 (show decode cJ0_checkIndex_df160 9 = .ok (.return_, 1) by decide +kernel)
theorem zsNb : ∀ e, e < zNS → zsN e < 2 ^ 31 := by decide +kernel
theorem zsBb : ∀ l ∈ zsB, ∀ b ∈ l, b &&& 255 = b := by decide +kernel
theorem zg_getD {α : Type} : ∀ (l : List α) (n : Nat) (d : α), zg l n d = l.getD n d
  | [], n, d => by cases n <;> rfl
  | x :: t, 0, d => rfl
  | x :: t, n + 1, d => by
    rw [zg, zg_getD t n d]
    simp
theorem zg_mem {α : Type} {l : List α} {n : Nat} {d : α} (h : n < l.length) : zg l n d ∈ l := by
  rw [zg_getD, List.getD_eq_getElem?_getD, List.getElem?_eq_getElem h]
  exact List.getElem_mem h
theorem zsC_255 {e n : Nat} (he : e < zNS) (hn : n < zsN e) : zsC e n &&& 255 = zsC e n :=
  zsBb (zg zsB e []) (zg_mem (by rw [show zsB.length = 36 from rfl]; exact he)) _ (zg_mem hn)
theorem zvp_of {j : Int32} {n : Nat} (h : vp_in j n) (hn : n < 2 ^ 31) : ¬ j < 0 ∧ j < Int32.ofNat n := by
  unfold vp_in at h
  have h0 : ¬ j < 0 := fun q => h (Or.inl q)
  have h1 : j.toNatClampNeg < n := Nat.lt_of_not_le fun q => h (Or.inr q)
  refine ⟨h0, ?_⟩
  obtain ⟨k, hk, rfl⟩ := nI_of h0
  exact nI_lt (by rw [nI_clamp hk] at h1; exact h1) hn
theorem zj_chL {X : zX} {σ : zH} {t : Nat} (ht : t < zNS) {j : Int32} (hj : vp_in j (zsN t)) : zMy X yJ1_charAt_3b067 cJ1_charAt_3b067 2 (some .char) 3 [.ref (zav X t), .int j] σ (vI (zsC t j.toNatClampNeg)) := by
  refine zMy_of (by decide) (Nat.le_of_ble_eq_true rfl) (fun p e s mi args below meth c ls hC hl hP => ?_)
  have hC0 := hC
  obtain ⟨hx, hb, hml, hr, hown, hts, hlocks, hK, hZ⟩ := hC
  have hS : va_S (zA X) s.heap s.heap [] := va_S.rf
  have hl : lv_has ls 2 [(0, .ref (zav X t)), (1, .int j)] := hl
  obtain ⟨hT, -, hCS, hSI⟩ := hZ t ht
  have hTT := (hT.1 0 Nat.zero_lt_one).2.2.2
  obtain ⟨hj0, hj1⟩ := zvp_of hj (zsNb t ht)
  have hjn : j.toNatClampNeg < zsN t := Nat.lt_of_not_le fun q => hj (Or.inr q)
  have hc255 := zsC_255 ht hjn
  refine lv_iload_n hx hb (show decode cJ1_charAt_3b067 0 = .ok (.iload_n 1, 1) by decide +kernel) rfl (lv_at hl 1 rfl) ?_
  refine lv_aload_n hx hb (show decode cJ1_charAt_3b067 1 = .ok (.aload_n 0, 1) by decide +kernel) rfl (lv_at hl 0 rfl) ?_
  refine va_tlen (v := Int32.ofNat (zsN t)) hx hb hTT hS rfl (show decode cJ1_charAt_3b067 2 = .ok (.arraylength, 1) by decide +kernel) ?_
  refine zy_callS (rest := []) (k := 2) (zj_check0 (σ := σ) hj0 hj1) hC0 hP hS hl.1 (zKw_at 18 rfl) (zKw_at 17 rfl) (zKw_at 6 rfl) (zKw_at 16 rfl) ⟨by decide, by decide, by decide +kernel⟩ rfl (by decide) (by decide) (by decide) (show decode cJ1_charAt_3b067 3 = .ok (.invokestatic 9, 3) by decide +kernel) (fun H1 locs1 hP hS => ?_)
  refine lv_aload_n hx hb (show decode cJ1_charAt_3b067 6 = .ok (.aload_n 0, 1) by decide +kernel) rfl (lv_at hl 0 rfl) ?_
  refine lv_iload_n hx hb (show decode cJ1_charAt_3b067 7 = .ok (.iload_n 1, 1) by decide +kernel) rfl (lv_at hl 1 rfl) ?_
  refine va_tb (v := .int (zsC t j.toNatClampNeg)) hx hb hTT hS hj (by rw [zsC, zg_getD (zg zsB t [])]; rfl) (show decode cJ1_charAt_3b067 8 = .ok (.baload, 1) by decide +kernel) ?_
  refine lv_sipush (v := 255) hx hb (show decode cJ1_charAt_3b067 9 = .ok (.sipush 255, 3) by decide +kernel) (by decide) ?_
  refine lv_iand hx hb (show decode cJ1_charAt_3b067 12 = .ok (.iand, 1) by decide +kernel) ?_
  refine lv_i2c (v := zsC t j.toNatClampNeg) hx hb (show decode cJ1_charAt_3b067 13 = .ok (.i2c, 1) by decide +kernel) (by rw [sc_c2]; exact hc255) ?_
  exact W.zret hx hb hr (by rw [← hc255]; exact sc_nar _) (zy_end hP hS rfl) hS.2.2 (show decode cJ1_charAt_3b067 14 = .ok (.ireturn, 1) by decide +kernel)
theorem zJlen_ok (X : zX) : zJlen X := fun t ht σ => by
  refine (zMy_of (y := zyLen) (b := cJ0_length_8abf5) (n := 1) (ret := some .int) (d := 3) (As := [.ref (zad X 200 t)]) (v := vI (Int32.ofNat (zsN t))) (by decide) (Nat.le_of_ble_eq_true rfl) (fun p e s mi args below meth c ls hC hl hP => ?_) : _)
  have hC0 := hC
  obtain ⟨hx, hb, hml, hr, hown, hts, hlocks, hK, hZ⟩ := hC
  have hS : va_S (zA X) s.heap s.heap [] := va_S.rf
  have hl : lv_has ls 1 [(0, .ref (zad X 200 t))] := hl
  obtain ⟨hT, -, hCS, hSI⟩ := hZ t ht
  refine lv_aload_n hx hb (show decode cJ0_length_8abf5 0 = .ok (.aload_n 0, 1) by decide +kernel) rfl (lv_at hl 0 rfl) ?_
  refine vk_getf hx hb (hT.1 0 Nat.zero_lt_one).2.2.1 hS hown (hts (.fieldLink RJ0 9 "java/lang/String" "value" "[B") (zKw_at 2 rfl)) (fun _ h9 => h9) (show decode cJ0_length_8abf5 1 = .ok (.getfield 9, 3) by decide +kernel) ?_
  refine va_tlen (v := Int32.ofNat (zsN t)) hx hb (hT.1 0 Nat.zero_lt_one).2.2.2 hS rfl (show decode cJ0_length_8abf5 4 = .ok (.arraylength, 1) by decide +kernel) ?_
  refine lv_aload_n hx hb (show decode cJ0_length_8abf5 5 = .ok (.aload_n 0, 1) by decide +kernel) rfl (lv_at hl 0 rfl) ?_
  refine zy_callV (As := []) (rest := [.int (Int32.ofNat (zsN t))]) (k := 0) (zj_coder (σ := σ) ht) hC0 hP hS hl.1 ht (zKw_at 7 rfl) (zKw_at 4 rfl) (zKw_at 5 rfl) (zKw_at 6 rfl) (zKw_at 3 rfl) rfl (by decide +kernel) rfl (by decide) (by decide) (show 1 ≤ 8 by decide) (show decode cJ0_length_8abf5 6 = .ok (.invokevirtual 335, 3) by decide +kernel) (fun H1 locs1 hP hS => ?_)
  refine lv_ishr hx hb (show decode cJ0_length_8abf5 9 = .ok (.ishr, 1) by decide +kernel) ?_
  exact W.iret hx hb hr (zy_end hP hS (by rw [show (Int32.ofNat (zsN t)) >>> ((0 : Int32) &&& 31) = Int32.ofNat (zsN t) from sc_shr0 (zsNb t ht)]; rfl)) hS.2.2 (show decode cJ0_length_8abf5 10 = .ok (.ireturn, 1) by decide +kernel)
theorem zJch_ok (X : zX) : zJch X := fun t ht σ j hj => by
  refine (zMy_of (y := zyCh) (b := cJ0_charAt_5068e) (n := 2) (ret := some .char) (d := 5) (As := [.ref (zad X 200 t), .int j]) (v := vI (zsC t j.toNatClampNeg)) (by decide) (Nat.le_of_ble_eq_true rfl) (fun p e s mi args below meth c ls hC hl hP => ?_) : _)
  have hC0 := hC
  obtain ⟨hx, hb, hml, hr, hown, hts, hlocks, hK, hZ⟩ := hC
  have hS : va_S (zA X) s.heap s.heap [] := va_S.rf
  have hl : lv_has ls 2 [(0, .ref (zad X 200 t)), (1, .int j)] := hl
  obtain ⟨hT, -, hCS, hSI⟩ := hZ t ht
  have hjn : j.toNatClampNeg < zsN t := Nat.lt_of_not_le fun q => hj (Or.inr q)
  have hc255 := zsC_255 ht hjn
  refine lv_aload_n hx hb (show decode cJ0_charAt_5068e 0 = .ok (.aload_n 0, 1) by decide +kernel) rfl (lv_at hl 0 rfl) ?_
  refine zy_callV (As := []) (rest := []) (k := 0) (zj_isLatin1 (σ := σ) ht) hC0 hP hS hl.1 ht (zKw_at 11 rfl) (zKw_at 9 rfl) (zKw_at 10 rfl) (zKw_at 6 rfl) (zKw_at 8 rfl) rfl (by decide +kernel) rfl (by decide) (by decide) (by decide) (show decode cJ0_charAt_5068e 1 = .ok (.invokevirtual 492, 3) by decide +kernel) (fun H1 locs1 hP hS => ?_)
  refine lv_if_eq (tgt := 16) hx hb (show decode cJ0_charAt_5068e 4 = .ok (.ifCond .eq 12, 3) by decide +kernel) rfl (fun h => absurd h (by decide)) (fun _ => ?_)
  refine lv_aload_n hx hb (show decode cJ0_charAt_5068e 7 = .ok (.aload_n 0, 1) by decide +kernel) rfl (lv_at hl 0 rfl) ?_
  refine vk_getf hx hb (hT.1 0 Nat.zero_lt_one).2.2.1 hS hown (hts (.fieldLink RJ0 9 "java/lang/String" "value" "[B") (zKw_at 2 rfl)) (fun _ h9 => h9) (show decode cJ0_charAt_5068e 8 = .ok (.getfield 9, 3) by decide +kernel) ?_
  refine lv_iload_n hx hb (show decode cJ0_charAt_5068e 11 = .ok (.iload_n 1, 1) by decide +kernel) rfl (lv_at hl 1 rfl) ?_
  refine zy_callS (rest := []) (k := 2) (zj_chL (σ := σ) ht hj) hC0 hP hS hl.1 (zKw_at 15 rfl) (zKw_at 13 rfl) (zKw_at 14 rfl) (zKw_at 12 rfl) ⟨by decide, by decide, by decide +kernel⟩ rfl (by decide) (by decide) (by decide) (show decode cJ0_charAt_5068e 12 = .ok (.invokestatic 495, 3) by decide +kernel) (fun H1 locs1 hP hS => ?_)
  exact W.zret hx hb hr (by rw [← hc255]; exact sc_nar _) (zy_end hP hS rfl) hS.2.2 (show decode cJ0_charAt_5068e 15 = .ok (.ireturn, 1) by decide +kernel)
