theorem ncl_at {y : Nat} (hy : y < 12) : ((nY y).cls ≠ "java/lang/invoke/MethodHandle" ∧ (nY y).cls ≠ "java/lang/invoke/VarHandle" ∧ (parseMethodDescriptor (nY y).desc).map (fun d => d.parameters.length) = some (nP y)) ∧ (zcl y).1 = (nY y).cls ∧ plainName (nY y).cls = true ∧ (nY y).name = "<init>" ∧ nL y ≤ 3 ∧ nP y + 1 ≤ nL y := by
  have h1 := (nch_at y hy).2.2
  unfold ncl at h1
  simp only [Bool.and_eq_true, decide_eq_true_eq] at h1
  obtain ⟨⟨⟨⟨⟨⟨⟨⟨⟨-, a1⟩, a2⟩, a3⟩, a4⟩, a5⟩, a6⟩, a7⟩, a8⟩, -⟩ := h1
  exact ⟨⟨a1, a2, a3⟩, a4, a5, a6, a7, a8⟩
theorem nflat_len : ∀ av : List zAV, (∀ v ∈ av, zc1 v = true) → (zflat av).length = av.length
  | [], _ => rfl
  | v :: t, h => by
    have ih := nflat_len t (fun w hw => h w (List.mem_cons_of_mem _ hw))
    rcases v with x | x | x | x
    · rw [zflat, List.length_cons, List.length_cons, ih]; exact fun _ q => by cases q
    · exact absurd (h _ List.mem_cons_self) Bool.false_ne_true
    · rw [zflat, List.length_cons, List.length_cons, ih]; exact fun _ q => by cases q
    · rw [zflat, List.length_cons, List.length_cons, ih]; exact fun _ q => by cases q
/-- a constructor's contract -/
theorem nmet {X : zX} {base y : Nat} {al : Nat → Nat} {cs cs' : List nw_C} {av : List zAV} {K S : Nat} (hy : y < 12) (hl : (zflat av).length ≤ nL y) (ho : nw_o cs) (h0 : nw_pc (nT y) = 0) (h : nG X base y cs' K S (nT y) cs (zloc av (nL y)) [] 0 0) : nMet X base y al cs av cs' K S := by
  have hc := ncl_at hy
  refine Met.ofW (cc := nB y) (maxL := nL y) (ret := none) hc.2.2.1 rfl ?_
  intro p e s mi args below meth c s₁ B hml hpc
  obtain ⟨rfl, hK, hP, hD, hN, hB⟩ := hpc
  have hts := atoms_spec (ws := nws y) B.pre
  have hown : s.vm.findClass (nY y).cls = some mi.cls := findClass_of_methodNamed B.named
  rw [lg_entry_eq]
  have hln := zflat_len (ad := nw_ad al) av
  have hle := lv_entry (av.map (cV (nw_ad al))) (n := nL y) (by rw [hln]; exact hl)
  have h1 := h al cs.length al p e s mi _ below meth c s.heap [] _ (Nat.le_refl _) (fun _ _ => rfl) ho ⟨B.exec, B.bytes, hml, B.returns, hown, fun w hw => hts w (List.mem_cons_of_mem _ hw), B.notSynchronized, (name_of_methodNamed B.named B.method).1.trans hc.2.2.2.1, hK, hN, hB⟩ ⟨⟨hle.1, hle.2.1, by rw [zloc, List.length_append, List.length_replicate]; omega, fun i w hw hu => by
    rw [zloc, List.getElem?_append] at hw
    split at hw
    · have := zflat_args (ad := nw_ad al) av 0 i w hw hu
      rw [Nat.zero_add] at this
      exact hle.2.2 _ this
    · rw [List.getElem?_replicate] at hw
      split at hw
      · cases hw; exact absurd rfl hu
      · cases hw⟩, hP, hD, va_S.rf⟩
  rw [h0] at h1
  exact h1
theorem nT0 : ∀ y, y < 12 → nw_pc (nT y) = 0 := by decide +kernel
section
variable {X : zX} {base y : Nat} {cs' : List nw_C} {K S pc a b : Nat} {z : Int} {w : List Nat} {es : List nw_r} {cs : List nw_C} {L st : List zAV} {kc ks : Nat}
theorem nG_call {cs1 : List nw_C} {k1 s1 : Nat} (hb : b < 12) (hbd : nd b < nd y) (hd : decode (nB y) pc = .ok (.invokespecial a, 3)) (hp : nw_pc es = pc + 3) (hL : L.all (nw_v cs.length) = true) (ht : st.all (nw_v cs.length) = true) (hz : zcs (st.drop (nP b + 1)) ≤ 8) (hh : nhd (st.take (nP b + 1)).reverse (nP b) = true) (hl : cs.length ≤ cs1.length) (hno : nw_o cs → nw_o cs1) (hK : kc + k1 ≤ K) (hS : ks + s1 ≤ S)
    (hM : ∀ al, nw_o cs → nMet X base b al cs (st.take (nP b + 1)).reverse cs1 k1 s1)
    (hw : ∀ (s : State) (args : Array Value), (∀ w ∈ lw_good, w.before args s = true) → nNs s → ((Cond.methodLink (nY y).cls a (nY b)).before args s = true ∨ va_Nw (.methodLinkNest (nY y).cls a (nY b) RX10) s) ∧ (Cond.instanceMethod (nY b)).before args s = true ∧ (Cond.initialized (nY b).cls).before args s = true)
    (IH : nG X base y cs' K S es cs1 L (st.drop (nP b + 1)) (kc + k1) (ks + s1)) {r : nw_r} (hr : r.1 = pc) : nG X base y cs' K S (r :: es) cs L st kc ks := by
  intro al0 n0 al p e s mi args below meth c H locs ls hn ha ho hC hA
  obtain ⟨k, i, t, hav, htl, -⟩ := nhd_of hh
  obtain ⟨hb1, hb2, hb3, hb4, hb5, hb6⟩ := ncl_at hb
  have hst : st = t.reverse ++ vR k i :: st.drop (nP b + 1) := by
    have h1 : st.take (nP b + 1) = (vR k i :: t).reverse := by rw [← hav, List.reverse_reverse]
    rw [List.reverse_cons] at h1
    calc st = st.take (nP b + 1) ++ st.drop (nP b + 1) := (List.take_append_drop (nP b + 1) st).symm
      _ = _ := by rw [h1, List.append_assoc]; rfl
  have hms : st.map (cV (nw_ad al)) = (t.map (cV (nw_ad al))).reverse ++ .ref (al i) :: (st.drop (nP b + 1)).map (cV (nw_ad al)) := by
    rw [← List.map_reverse]
    conv => lhs; rw [hst]
    rw [List.map_append, List.map_cons]
    rfl
  have hM1 := hM al ho
  unfold nMet at hM1
  rw [hav] at hM1
  have hfix : CallFix p mi c (nB y) (nL y) s args lw_good (nY y).cls := ⟨hC.1, hC.2.1, hC.2.2.1, hC.2.2.2.2.1, hC.2.2.2.2.2.1⟩
  have hpre : PreS s H (va_Pc (Value.ref (al i) :: t.map (cV (nw_ad al))) (nPU X base al cs)) (Value.ref (al i) :: t.map (cV (nw_ad al))) := ⟨nPU_blind X base al cs _, fun U hU hW => ⟨rfl, va_K.moved hW.alike hC.2.2.2.2.2.2.2.2.1, by rw [hU]; exact hA.2.1, hA.2.2.1, nNs_warm hW hC.2.2.2.2.2.2.2.2.2.1, by rw [hU]; exact Nat.le_trans hC.2.2.2.2.2.2.2.2.2.2 hA.2.2.2.1⟩⟩
  have hR : (nrm b k1 s1).frames + 1 ≤ (nrm y K S).frames ∧ 8 + (nL b + 11) + (nrm b k1 s1).locals ≤ (nrm y K S).locals := ⟨hbd, by show 8 + (nL b + 11) + 30 * nd b ≤ 30 * nd y; omega⟩
  have hz2 := lv_room (pc := pc) (ls := ls) (rest := st.map (cV (nw_ad al))) (m := mi) (st := (st.drop (nP b + 1)).map (cV (nw_ad al))) (by rw [zcs_sum]; exact hz)
  obtain ⟨hw1, hw2, hw3⟩ := hw s args hC.2.2.2.2.2.1 hC.2.2.2.2.2.2.2.2.2.1
  have hrun : va_Run p (zl X) e (nrm y K S) s mi args below meth c H locs kc ks k1 s1 (F0 mi pc ls (st.map (cV (nw_ad al)))) ((st.drop (nP b + 1)).map (cV (nw_ad al))) (nQ X base al cs.length cs1 (Value.ref (al i) :: t.map (cV (nw_ad al))).toArray) (nFr base) := by
    rcases hw1 with hw1 | hw1
    · exact va_runI hfix hM1 (cwI (nP b) hC.2.2.2.2.2.1 (nws_good hb) rfl rfl rfl hw3 hw1 hw2 hb4 hb1 hR) hpre rfl (by rw [List.length_map]; exact htl) hA.1.1 hms hz2 hd ⟨hK, hS⟩
    · exact va_runIN hfix hM1 ⟨va_cnB (nP b) hC.2.2.2.2.2.1 (nws_good hb) rfl rfl rfl hw1 hw3 hb1 hR, hb4, hw2⟩ hpre rfl (by rw [List.length_map]; exact htl) hA.1.1 hms hz2 hd ⟨hK, hS⟩
  rw [show nw_pc (r :: es) = pc from hr]
  exact nG_ret2 hL (nlast_all ht) hl hno IH hp hn ha ho hC hA hrun
end
theorem nfl_le {b : Nat} {av : List zAV} (hb : b < 12) (h : nhd av (nP b) = true) : (zflat av).length ≤ nL b := by
  obtain ⟨k, i, t, rfl, h1, h2⟩ := nhd_of h
  rw [nflat_len _ (fun v hv => by
    rcases List.mem_cons.mp hv with rfl | hv
    · rfl
    · exact List.all_eq_true.mp h2 v hv), List.length_cons, h1]
  exact (ncl_at hb).2.2.2.2.2
