/-! calls, ends, switches -/
theorem zfw : nativeFrameWords "java/lang/System" "arraycopy" 5 + 11 ≤ 22 := by decide +kernel
section
variable {ρ : Type} {X : zX} {m : Nat} {kr : zH → zAV → Option ρ} {pc : Nat} {σ : zH} {L st : List zAV} {r : ρ} {N : zH → List zAV → List zAV → Option ρ}
theorem zt_ret {v : zAV} (hkr : kr σ v = some r) (hv : (∀ w ∈ L ++ st, zval X w) → zval X v) (hs : ∀ (p : Program) (e : Env) (s : State) (mi : MethodId) (args : Array Value) (below : List Frame) (meth : Method) (c : Code) (H : Heap) (locs : List Loc) (ls : Array Slot),
      zCx X m p s args mi meth c → zat X m s H locs ls σ L → (∀ t : State, t.heap = H → s.WarmedH t.vm → zQ X σ v args s (.returned (zrv X v)) t) →
      W p (zl X) e (zrm (mD m)) s mi args below meth c H locs 0 0 (MQ below (zQ X σ v) args s 0 0 (zA X)) (F0 mi pc ls (st.map (cV (zad X))))) : zGW X m kr pc σ L st r := by
  intro hva
  exact ⟨σ, v, hkr, hv hva, fun p e s mi args below meth c H locs ls hC ha => hs p e s mi args below meth c H locs ls hC ha (fun t ht _ => ⟨rfl, by rw [ht]; exact ha.2.1, ha.2.2.F ht⟩)⟩
theorem zt_ireturn0 {x : Int32} (hR : mR m = some .int) (hdg : decode (mB m) pc = .ok (.ireturn, 1)) (h : kr σ (vI x) = some r) : zGW X m kr pc σ L [vI x] r :=
  zt_ret h (fun _ => trivial) (fun p e s mi args below meth c H locs ls hC ha q => W.iret hC.1 hC.2.1 (hC.2.2.2.1.trans hR) q ha.2.2.2.2 hdg hC.2.2.2.2.2.2.1)
theorem zt_ireturn1 {x : Int32} (hR : mR m = some .boolean) (hx : x = 0 ∨ x = 1) (hdg : decode (mB m) pc = .ok (.ireturn, 1)) (h : kr σ (vI x) = some r) : zGW X m kr pc σ L [vI x] r :=
  zt_ret h (fun _ => trivial) (fun p e s mi args below meth c H locs ls hC ha q => W.zret hC.1 hC.2.1 (hC.2.2.2.1.trans hR) (by rcases hx with rfl | rfl <;> rfl) q ha.2.2.2.2 hdg hC.2.2.2.2.2.2.1)
theorem zt_lreturn {x : Int64} (hR : mR m = some .long) (hdg : decode (mB m) pc = .ok (.lreturn, 1)) (h : kr σ (vL x) = some r) : zGW X m kr pc σ L [vL x] r :=
  zt_ret h (fun _ => trivial) (fun p e s mi args below meth c H locs ls hC ha q => W.lret hC.1 hC.2.1 (hC.2.2.2.1.trans hR) q ha.2.2.2.2 hdg hC.2.2.2.2.2.2.1)
theorem zt_areturn {k i : Nat} {n : String} (hR : mR m = some (.object n)) (hdg : decode (mB m) pc = .ok (.areturn, 1)) (h : kr σ (vR k i) = some r) : zGW X m kr pc σ L [vR k i] r :=
  zt_ret h (fun hv => zvs_hd hv) (fun p e s mi args below meth c H locs ls hC ha q => W.aret hC.1 hC.2.1 (hC.2.2.2.1.trans hR) (Or.inl ⟨n, rfl⟩) (Or.inr ⟨_, rfl⟩) q ha.2.2.2.2 hdg hC.2.2.2.2.2.2.1)
theorem zt_return (hR : mR m = none) (hdg : decode (mB m) pc = .ok (.return_, 1)) (h : kr σ vU = some r) : zGW X m kr pc σ L [] r :=
  zt_ret h (fun _ => trivial) (fun p e s mi args below meth c H locs ls hC ha q => W.vret hC.1 hC.2.1 (hC.2.2.2.1.trans hR) q ha.2.2.2.2 hdg hC.2.2.2.2.2.2.1)
theorem zrm_l (d : Nat) : (zrm d).locals = 30 * d := rfl
theorem zrm_f (d : Nat) : (zrm d).frames = d := rfl
theorem zt_max {x y : Int32} {z : Nat} {t : List zAV} (hd : 1 ≤ mD m) (ht : zcs t ≤ 8) (hw : Cond.methodLink (mY m).cls z Lib.Math.max.name ∈ lw_good ∧ Cond.static Lib.Math.max.name ∈ lw_good ∧ Cond.initialized "java/lang/Math" ∈ lw_good ∧ Cond.code Lib.Math.max.name Lib.Math.max.code 2 (some .int) ∈ lw_good)
    (hdg : decode (mB m) pc = .ok (.invokestatic z, 3)) (IH : zGW X m kr (pc + 3) σ L (vI (if x < y then y else x) :: t) r) : zGW X m kr pc σ L (vI y :: vI x :: t) r :=
  IH.pure (fun hv => zvs_cons trivial (zvs_st (zvs_tl (zvs_tl hv)))) (fun p e9 s mi args below meth c H locs ls Q hC ha k => va_mmax hC.1 hC.2.1 (hC.2.2.1.trans ha.1.1.symm) hC.2.2.2.2.1 (hC.2.2.2.2.2.1 _ hw.1) (hC.2.2.2.2.2.1 _ hw.2.1) (hC.2.2.2.2.2.1 _ hw.2.2.1) (hC.2.2.2.2.2.1 _ hw.2.2.2)
    (by rw [zrm_f]; exact hd) (by rw [zcs_sum, zrm_l]; omega) (Nat.zero_le _) (Nat.zero_le _) hdg k)
theorem zt_min {x y : Int32} {z : Nat} {t : List zAV} (hd : 1 ≤ mD m) (ht : zcs t ≤ 8) (hw : Cond.methodLink (mY m).cls z Lib.Math.min.name ∈ lw_good ∧ Cond.static Lib.Math.min.name ∈ lw_good ∧ Cond.initialized "java/lang/Math" ∈ lw_good ∧ Cond.code Lib.Math.min.name Lib.Math.min.code 2 (some .int) ∈ lw_good)
    (hdg : decode (mB m) pc = .ok (.invokestatic z, 3)) (IH : zGW X m kr (pc + 3) σ L (vI (if y < x then y else x) :: t) r) : zGW X m kr pc σ L (vI y :: vI x :: t) r :=
  IH.pure (fun hv => zvs_cons trivial (zvs_st (zvs_tl (zvs_tl hv)))) (fun p e9 s mi args below meth c H locs ls Q hC ha k => va_mmin hC.1 hC.2.1 (hC.2.2.1.trans ha.1.1.symm) hC.2.2.2.2.1 (hC.2.2.2.2.2.1 _ hw.1) (hC.2.2.2.2.2.1 _ hw.2.1) (hC.2.2.2.2.2.1 _ hw.2.2.1) (hC.2.2.2.2.2.1 _ hw.2.2.2)
    (by rw [zrm_f]; exact hd) (by rw [zcs_sum, zrm_l]; omega) (Nat.zero_le _) (Nat.zero_le _) hdg k)
theorem cpI_ne {σ : zH} {k i k1 i1 sp dp n : Nat} (k' i' : Nat) (h : ¬ (k' = k1 ∧ i' = i1)) : (cpI σ k i k1 i1 sp dp n).1 k' i' = σ.1 k' i' := funext fun j => by
  simp only [cpI]
  rw [if_neg h]
theorem cpI_at (σ : zH) (k i k1 i1 sp dp n : Nat) : (cpI σ k i k1 i1 sp dp n).1 k1 i1 = va_cpy (σ.1 k i) (σ.1 k1 i1) sp dp n := funext fun j => by simp [cpI]
theorem zent_cp {X : zX} {σ : zH} {k i k1 i1 sp dp n : Nat} (k' i' : Nat) (h : ¬ (k' = k1 ∧ i' = i1)) : zent X (cpI σ k i k1 i1 sp dp n) k' i' = zent X σ k' i' := by
  have e1 := cpI_ne (σ := σ) (k := k) (i := i) (sp := sp) (dp := dp) (n := n) k' i' h
  have e2 : zfs X (cpI σ k i k1 i1 sp dp n) k' i' = zfs X σ k' i' := by
    unfold zfs
    refine List.map_congr_left (fun j _ => ?_)
    unfold zfv
    rw [e1]
  unfold zent
  rw [e1, e2]
  rfl
theorem zt_copy (hX : zOK X) {k i k1 i1 z : Nat} {sp dp n : Int32} {t : List zAV} (hk : aT k = 0) (hk1 : aT k1 = 0) (hd : 1 ≤ mD m) (ht : zcs t ≤ 8) (hh : ¬ (sp < 0 ∨ dp < 0 ∨ n < 0 ∨ aN k < sp.toNatClampNeg + n.toNatClampNeg ∨ aN k1 < dp.toNatClampNeg + n.toNatClampNeg))
    (hw : Cond.methodLink (mY m).cls z arraycopyName ∈ lw_good ∧ Cond.native arraycopyName ∈ lw_good ∧ Cond.static arraycopyName ∈ lw_good ∧ Cond.initialized "java/lang/System" ∈ lw_good)
    (hdg : decode (mB m) pc = .ok (.invokestatic z, 3)) (IH : zGW X m kr (pc + 3) (cpI σ k i k1 i1 sp.toNatClampNeg dp.toNatClampNeg n.toNatClampNeg) L t r) : zGW X m kr pc σ L (vI n :: vI dp :: vR k1 i1 :: vI sp :: vR k i :: t) r := by
  simp only [not_or, Nat.not_lt] at hh
  obtain ⟨g1, g2, g3, g4, g5⟩ := hh
  refine IH.step (fun hv => zvs_tl (zvs_tl (zvs_tl (zvs_tl (zvs_tl hv))))) (fun hv p e9 s mi args below meth c H locs ls Q hC ha2 kk => ?_)
  obtain ⟨q1, hd1, hq1⟩ := zw_at (zval_in (zvs_hd (zvs_tl (zvs_tl hv))) (aT_lo (by omega)).2) σ
  obtain ⟨q0, -, hq0⟩ := zw_at (zval_in (zvs_hd (zvs_tl (zvs_tl (zvs_tl (zvs_tl hv))))) (aT_lo (by omega)).2) σ
  rw [zent_i (by omega)] at hq0 hq1
  exact va_copyi hC.1 hC.2.1 (hC.2.2.1.trans ha2.1.1.symm) hC.2.2.2.2.1 (hC.2.2.2.2.2.1 _ hw.1) (hC.2.2.2.2.2.1 _ hw.2.1) (hC.2.2.2.2.2.1 _ hw.2.2.1) (hC.2.2.2.2.2.1 _ hw.2.2.2) hC.2.2.2.2.2.2.2.1 ha2.2.1 (zw_D hX σ) ha2.2.2 q0 q1 0 0 hq0 hq1 (by rw [hk]; exact ztys_at X (by omega)) (by rw [hk1]; exact ztys_at X (by omega)) rfl g1 g2 g3 g4 g5 (fun _ _ => rfl)
    (by rw [zrm_f]; exact hd) (by rw [zcs_sum, zrm_l]; have := zfw; omega) hdg
    (fun H1 locs1 hP1 _ hS1 => kk H1 locs1 ls ⟨ha2.1, zw_set hX hd1 (by rw [zent_i (by omega), cpI_at]) (fun k' i' h => zent_cp k' i' h) hP1, hS1⟩)
/-! a call of a method by its contract -/
theorem zPU_blind (X : zX) (av : List Value) (σ : zH) : FrameBlind (va_Pc av (zPU X σ)) := fun a U g mk h => ⟨h.1, h.2.1, h.2.2.1, h.2.2.2⟩
theorem zStr_U {X : zX} {s U : State} {H : Heap} {locs : List Loc} (h : zStr X s s.heap) (hS : va_S (zA X) s.heap H locs) (hU : U.heap = H) (hW : s.WarmedH U.vm) : zStr X U U.heap := fun e he => by
  obtain ⟨h1, h2, h3, h4⟩ := h e he
  refine ⟨?_, h2.warm hW, ?_, ?_⟩
  · rw [hU]
    exact (h1.kept (fun a ha hn => hS.2.1 a ha hn)).moved hW.alike
  · rw [hU]
    exact (h3.kept (fun a ha hn => hS.2.1 a ha hn)).moved hW.alike
  · rw [hU]
    exact (h4.kept (fun a ha hn => hS.2.1 a ha hn)).moved hW.alike
theorem zrun_go {σ' : zH} {v : zAV} {p : Program} {e : Env} {R : Room} {s : State} {mi : MethodId} {args a : Array Value} {below : List Frame} {meth : Method} {c : Code} {H : Heap} {locs : List Loc} {ls : Array Slot} {st0 rest : List Value} {Q : State → Prop}
    (hr : va_Run p (zl X) e R s mi args below meth c H locs 0 0 0 0 (F0 mi pc ls st0) rest (zQ X σ' v a) (zA X)) (hS : va_S (zA X) s.heap H locs)
    (kk : ∀ (H1 : Heap) (locs1 : List Loc), va_P (zD X) zcls (zw X σ') H1 → va_S (zA X) s.heap H1 locs1 → W p (zl X) e R s mi args below meth c H1 locs1 0 0 Q (F0 mi (pc + 3) ls ((zrv X v).toList ++ rest))) : W p (zl X) e R s mi args below meth c H locs 0 0 Q (F0 mi pc ls st0) := by
  intro T hT X0
  obtain ⟨v0, st₀, t, T', L0, h0, X', hL, e1, e2, ⟨hv, hP, hF⟩, st⟩ := hr T hT X0
  cases hv
  unfold va_F at hF
  rw [h0] at hF
  obtain ⟨t2, a1, b1⟩ := kk T'.heap (locs ++ L0) (by rw [e1]; exact hP)
    ⟨Nat.le_trans hS.1 (by rw [e1]; exact hF.1), fun q h1 h2 => by rw [e1, hF.2 q (Nat.lt_of_lt_of_le h1 hS.1) h2]; exact hS.2.1 q h1 h2, fun q hq => by
      rcases List.mem_append.mp hq with h | h
      · exact hS.2.2 q h
      · exact hL q h⟩ T' rfl X'
  exact ⟨t2, st t2 a1, b1⟩
def zkd (m : Nat) : Nat := mK m
/-- what the tables say of a method: its words -/
def zmokA (m : Nat) : Bool := zwd (mWn m) (.initialized (mY m).cls) && (if mSt m = 0 then zwd (mWi m) (.instanceMethod (mY m)) && zwd (mWs m) (.selects (mY m).cls (mY m) (mY m)) else zwd (mWi m) (.static (mY m)))
  && decide (mL m ≤ 11) && decide ((mY m).cls ≠ "java/lang/invoke/MethodHandle") && decide ((mY m).cls ≠ "java/lang/invoke/VarHandle") && decide ((parseMethodDescriptor (mY m).desc).map (fun d => d.parameters.length) = some (mP m)) && decide (zkd m < 12) && decide ((zcl (zkd m)).1 = (mY m).cls) && plainName (mY m).cls
  && (match mRc m with
    | 0 => decide (mR m = some .int)
    | 1 => decide (mR m = some .boolean)
    | 3 => decide (mR m = some .long)
    | 4 => decide (mR m = some (.object "java/lang/String"))
    | _ => decide (mR m = none) && decide (mRc m = 9))
def zmok (m : Nat) : Prop := zmokA m = true ∧ m < zNM
theorem zgood_all : ∀ w ∈ lw_good, (w.onTables && w.keeps) = true ∨ ∃ ty, w = .arrayClass ty := fun w hw => good_of_word (List.mem_filter.mp hw).2
theorem zws_good {n : Nat} (h : zmok n) : GoodIn lw_good (zws n) := by
  intro w hw
  rcases List.mem_cons.mp hw with rfl | hw
  · have := zmc_in h.2
    exact ⟨this, zgood_all _ this⟩
  · exact ⟨hw, zgood_all _ hw⟩
/-- what a row of calls must say: of every answer there is a contract -/
def zCS (X : zX) (C : Nat → zH → List zAV → (zH → zAV → Option ρ) → Option ρ) : Prop := ∀ (n : Nat) (σ : zH) (av : List zAV) (k : zH → zAV → Option ρ) (r : ρ), C n σ av k = some r → (∀ a ∈ av, zval X a) →
  ∃ σ' v, zMet X n σ av σ' v ∧ zval X v ∧ (v = vU ↔ mRc n = 9) ∧ (if mSt n = 0 then ∃ i t, av = vR (zkd n) i :: t ∧ t.length = mP n else av.length = mP n) ∧ k σ' v = some r
theorem zrv_of {v : zAV} (h : v ≠ vU) : zrv X v = some (cV (zad X) v) := by
  rcases v with x | x | x | x
  · rfl
  · rfl
  · rfl
  · exact absurd rfl h
theorem zt_callV (hX : zOK X) {C : Nat → zH → List zAV → (zH → zAV → Option ρ) → Option ρ} (hC0 : zCS X C) {n b u z : Nat} (hn : zmok n) (hs0 : mSt n = 0) (hd : mD n + 1 ≤ mD m) (hb : b = mP n + 1) (hu : u = 0 ↔ mRc n ≠ 9) (hw : Cond.methodLink (mY m).cls z (mY n) ∈ lw_good)
    (hdg : decode (mB m) pc = .ok (.invokevirtual z, 3)) (IH : ∀ σ L st r, N σ L st = some r → zGW X m kr (pc + 3) σ L st r)
    (hrest : zcs (st.drop b) ≤ 8) (h : (C n σ (st.take b).reverse fun σ v => N σ L (zpush u v (st.drop b))) = some r) : zGW X m kr pc σ L st r := by
  intro hva
  have hav : ∀ a ∈ (st.take b).reverse, zval X a := fun a ha => hva a (List.mem_append_right _ (List.mem_of_mem_take (List.mem_reverse.mp ha)))
  obtain ⟨σ1, v, hM, hvv, hvu, hsh, hk⟩ := hC0 n σ _ _ r h hav
  rw [if_pos hs0] at hsh
  obtain ⟨i, t, hsh, htl⟩ := hsh
  have hst : st = t.reverse ++ vR (zkd n) i :: st.drop b := by
    have h1 : st.take b = (vR (zkd n) i :: t).reverse := by rw [← hsh, List.reverse_reverse]
    rw [List.reverse_cons] at h1
    calc st = st.take b ++ st.drop b := (List.take_append_drop b st).symm
      _ = _ := by rw [h1, List.append_assoc]; rfl
  have hv2 : ∀ w ∈ L ++ (zpush u v (st.drop b)), zval X w := by
    have hdr : ∀ w ∈ st.drop b, zval X w := fun w hw => hva w (List.mem_append_right _ (List.mem_of_mem_drop hw))
    refine zvs_app (zvs_L hva) ?_
    cases u with
    | zero => exact zvs_cons hvv hdr
    | succ u => exact hdr
  obtain ⟨σ2, v2, h1, h1v, h2⟩ := IH _ _ _ _ hk hv2
  refine ⟨σ2, v2, h1, h1v, fun p e s mi args below meth c H locs ls hC ha => ?_⟩
  have hmo := hn.1
  unfold zmokA at hmo
  simp only [Bool.and_eq_true, decide_eq_true_eq] at hmo
  obtain ⟨⟨⟨⟨⟨⟨⟨⟨⟨m2, m3⟩, m4⟩, m5⟩, m6⟩, m7⟩, m8⟩, m9⟩, m10⟩, m11⟩ := hmo
  rw [if_pos hs0] at m3
  rw [Bool.and_eq_true] at m3
  have hrv : zval X (vR (zkd n) i) := hav _ (by rw [hsh]; exact List.mem_cons_self)
  obtain ⟨q0, -, hq⟩ := zw_at (zval_o hrv m8) σ
  rw [zent_o m8] at hq
  have hcell := va_recv hC.2.2.2.2.2.2.2.1 ha.2.1 (zcls_at _ m8) hq
  have hms : st.map (cV (zad X)) = (t.map (cV (zad X))).reverse ++ .ref (zad X (zkd n) i) :: (st.drop b).map (cV (zad X)) := by
    rw [← List.map_reverse]
    conv => lhs; rw [hst]
    rw [List.map_append, List.map_cons]
    rfl
  have hM2 : Met (zl X) (mY n) (zws n) (zrm (mD n)) (va_Pc (Value.ref (zad X (zkd n) i) :: t.map (cV (zad X))) (zPU X σ)) (zQ X σ1 v) 0 0 (zA X) := by
    have h3 := hM
    unfold zMet at h3
    rw [hsh] at h3
    exact h3
  have hrun := va_runV (p := p) (e := e) (R := zrm (mD m)) (below := below) (meth := meth) (H := H) (locs := locs) (cells := 0) (slots := 0) (As := t.map (cV (zad X))) (rest := (st.drop b).map (cV (zad X))) (b := zad X (zkd n) i) (C := (mY n).cls) (n := mP n) (index := z) (g := F0 mi pc ls (st.map (cV (zad X))))
    ⟨hC.1, hC.2.1, hC.2.2.1, hC.2.2.2.2.1, hC.2.2.2.2.2.1⟩ hM2
    (cwV (mP n) hC.2.2.2.2.2.1 (fun w hw2 => by
      rcases List.mem_append.mp hw2 with q | q
      · have q2 : w = .methodLink (mY m).cls z (mY n) ∨ w = .instanceMethod (mY n) ∨ w = .selects (mY n).cls (mY n) (mY n) ∨ w = .initialized (mY n).cls := by simpa using q
        have q3 : w ∈ lw_good := by
          rcases q2 with rfl | rfl | rfl | rfl
          · exact hw
          · exact zwd_in m3.1
          · exact zwd_in m3.2
          · exact zwd_in m2
        exact ⟨q3, zgood_all _ q3⟩
      · exact zws_good hn w q) rfl rfl rfl ⟨rfl, m5, m6, m7⟩ ⟨by rw [zrm_f, zrm_f]; exact hd, by rw [zrm_l, zrm_l]; omega⟩)
    ⟨zPU_blind X _ σ, by rw [← m9]; exact hcell, fun U hU hW => ⟨rfl, va_K.moved hW.alike hC.2.2.2.2.2.2.2.1, by rw [hU]; exact ha.2.1, zStr_U hC.2.2.2.2.2.2.2.2 ha.2.2 hU hW⟩⟩
    rfl (by rw [List.length_map]; exact htl) ha.1.1 hms (lv_room (by rw [zcs_sum]; exact hrest)) hdg ⟨Nat.zero_le _, Nat.zero_le _⟩
  refine zrun_go hrun ha.2.2 (fun H1 locs1 hP1 hS1 => ?_)
  have h5 := h2 p e s mi args below meth c H1 locs1 ls hC ⟨ha.1, hP1, hS1⟩
  by_cases hu0 : u = 0
  · subst hu0
    have hvne : v ≠ vU := fun q => hu.mp rfl (hvu.mp q)
    rw [zrv_of hvne]
    exact h5
  · have hve : v = vU := hvu.mpr (Classical.byContradiction fun q => hu0 (hu.mpr q))
    subst hve
    cases u with
    | zero => exact absurd rfl hu0
    | succ u => exact h5
theorem zt_callS (hX : zOK X) {C : Nat → zH → List zAV → (zH → zAV → Option ρ) → Option ρ} (hC0 : zCS X C) {n b u z : Nat} (hn : zmok n) (hs0 : mSt n ≠ 0) (hd : mD n + 1 ≤ mD m) (hb : b = mP n) (hu : u = 0 ↔ mRc n ≠ 9) (hw : Cond.methodLink (mY m).cls z (mY n) ∈ lw_good)
    (hdg : decode (mB m) pc = .ok (.invokestatic z, 3)) (IH : ∀ σ L st r, N σ L st = some r → zGW X m kr (pc + 3) σ L st r)
    (hrest : zcs (st.drop b) ≤ 8) (h : (C n σ (st.take b).reverse fun σ v => N σ L (zpush u v (st.drop b))) = some r) : zGW X m kr pc σ L st r := by
  intro hva
  have hav : ∀ a ∈ (st.take b).reverse, zval X a := fun a ha => hva a (List.mem_append_right _ (List.mem_of_mem_take (List.mem_reverse.mp ha)))
  obtain ⟨σ1, v, hM, hvv, hvu, hsh, hk⟩ := hC0 n σ _ _ r h hav
  rw [if_neg hs0] at hsh
  have hst : st = (st.take b).reverse.reverse ++ st.drop b := by rw [List.reverse_reverse, List.take_append_drop]
  have hv2 : ∀ w ∈ L ++ (zpush u v (st.drop b)), zval X w := by
    have hdr : ∀ w ∈ st.drop b, zval X w := fun w hw => hva w (List.mem_append_right _ (List.mem_of_mem_drop hw))
    refine zvs_app (zvs_L hva) ?_
    cases u with
    | zero => exact zvs_cons hvv hdr
    | succ u => exact hdr
  obtain ⟨σ2, v2, h1, h1v, h2⟩ := IH _ _ _ _ hk hv2
  refine ⟨σ2, v2, h1, h1v, fun p e s mi args below meth c H locs ls hC ha => ?_⟩
  have hmo := hn.1
  unfold zmokA at hmo
  simp only [Bool.and_eq_true, decide_eq_true_eq] at hmo
  obtain ⟨⟨⟨⟨⟨⟨⟨⟨⟨m2, m3⟩, m4⟩, m5⟩, m6⟩, m7⟩, m8⟩, m9⟩, m10⟩, m11⟩ := hmo
  rw [if_neg hs0] at m3
  have hms : st.map (cV (zad X)) = (((st.take b).reverse).map (cV (zad X))).reverse ++ (st.drop b).map (cV (zad X)) := by
    rw [← List.map_reverse]
    conv => lhs; rw [hst]
    rw [List.map_append]
  have hrun := va_runS (p := p) (e := e) (R := zrm (mD m)) (below := below) (meth := meth) (H := H) (locs := locs) (cells := 0) (slots := 0) (As := ((st.take b).reverse).map (cV (zad X))) (rest := (st.drop b).map (cV (zad X))) (n := mP n) (index := z) (g := F0 mi pc ls (st.map (cV (zad X))))
    ⟨hC.1, hC.2.1, hC.2.2.1, hC.2.2.2.2.1, hC.2.2.2.2.2.1⟩ hM
    ⟨callB_of (mP n) hC.2.2.2.2.2.1 (zws_good hn) rfl rfl rfl (hC.2.2.2.2.2.1 _ (zwd_in m2)) (hC.2.2.2.2.2.1 _ hw) ⟨m5, m6, m7⟩ ⟨by rw [zrm_f, zrm_f]; exact hd, by rw [zrm_l, zrm_l]; omega⟩, hC.2.2.2.2.2.1 _ (zwd_in m3)⟩
    ⟨zPU_blind X _ σ, fun U hU hW => ⟨rfl, va_K.moved hW.alike hC.2.2.2.2.2.2.2.1, by rw [hU]; exact ha.2.1, zStr_U hC.2.2.2.2.2.2.2.2 ha.2.2 hU hW⟩⟩
    rfl (by rw [List.length_map]; exact hsh) ha.1.1 hms (lv_room (by rw [zcs_sum]; exact hrest)) hdg ⟨Nat.zero_le _, Nat.zero_le _⟩
  refine zrun_go hrun ha.2.2 (fun H1 locs1 hP1 hS1 => ?_)
  have h5 := h2 p e s mi args below meth c H1 locs1 ls hC ⟨ha.1, hP1, hS1⟩
  by_cases hu0 : u = 0
  · subst hu0
    have hvne : v ≠ vU := fun q => hu.mp rfl (hvu.mp q)
    rw [zrv_of hvne]
    exact h5
  · have hve : v = vU := hvu.mpr (Classical.byContradiction fun q => hu0 (hu.mpr q))
    subst hve
    cases u with
    | zero => exact absurd rfl hu0
    | succ u => exact h5
end
