section
variable {X : zX} {base y : Nat} {cs' : List nw_C} {K S pc a b : Nat} {z : Int} {w : List Nat} {es : List nw_r} {cs : List nw_C} {L st : List zAV} {kc ks : Nat}
theorem nG_put {k i : Nat} {v : zAV} {q : Nat × List zAV} (hy : y < 12) (hk : nok y (pc, 10, a, b, z, w) = true) (hp : nw_pc es = pc + 3) (hq : cs[i]? = some (.inl q)) (hqy : q.1 = y) (hv : nw_v cs.length v = true) (hf : nw_fit (zcty y b) v = true) (hb : b < q.2.length)
    (IH : nG X base y cs' K S es (cs.set i (.inl (q.1, q.2.set b v))) L st kc ks) : nG X base y cs' K S ((pc, 10, a, b, z, w) :: es) cs L (v :: vR k i :: st) kc ks := by
  obtain ⟨hd, hw⟩ := nok_dec hk
  obtain ⟨hw, w3⟩ := nand2 hw
  obtain ⟨hw, w1⟩ := nand2 hw
  have hbN : b < zfN y := nw_blt hw
  have w3 := of_decide_eq_true w3
  subst hqy
  have hc := zcok_at hy
  refine IH.put (by rw [List.length_set]; exact Nat.le_refl _) (fun o => nw_o_set o (nfit_v (o _ (List.mem_of_getElem? hq)) hv)) (fun al p e9 s mi args below meth c H locs ls Q hC hA kk => ?_)
  rw [hp] at kk
  have hat := nw_has X (al := al) hq
  obtain ⟨f1, f2⟩ := nw_fits (nw_ad al) hf
  have e1 : nw_W X al (cs.set i (.inl (q.1, q.2.set b v))) = (nw_W X al cs).set i (al i, .inr (q.1, (q.2.map (cV (nw_ad al))).set b (cV (nw_ad al) v))) := by
    rw [nw_set, nw_e, List.map_set]
  have k2 : ∀ (H1 : Heap) (locs1 : List Loc), va_P (zD X) zcls ((nw_W X al cs).set i (al i, .inr (q.1, (q.2.map (cV (nw_ad al))).set b (cV (nw_ad al) v)))) H1 → va_D (nFr base) ((nw_W X al cs).set i (al i, .inr (q.1, (q.2.map (cV (nw_ad al))).set b (cV (nw_ad al) v)))) → va_S (nFr base) s.heap H1 locs1 → W p (zl X) e9 (nrm q.1 K S) s mi args below meth c H1 locs1 kc ks Q (F0 mi (pc + 3) ls (st.map (cV (nw_ad al)))) := fun H1 locs1 hP hD hS => kk H1 locs1 ls ⟨hA.1, by rw [e1]; exact hP, by rw [e1]; exact hD, hS⟩
  cases hfin : ((zcl q.1).2.1 b).2.2.2 with
  | false => exact va_put hC.1 hC.2.1 hC.2.2.2.2.2.1 hc.1 (zcty q.1) hc.2.1 hc.2.2 hC.2.2.2.2.1 hC.2.2.2.2.2.2.2.2.1 hA.2.1 hA.2.2.1 hA.2.2.2 i hat (zcls_at _ hy) b hbN (hC.2.2.2.2.2.1 _ (zwd_in w1)) (fun _ h => h) hfin (hc.2.1 b hbN) f1 f2 (by rw [List.length_map]; exact hb) hd k2
  | true => exact va_putF hC.1 hC.2.1 hC.2.2.2.2.2.1 hc.1 (zcty q.1) hc.2.1 hc.2.2 hC.2.2.2.2.1 hC.2.2.2.2.2.2.2.2.1 hA.2.1 hA.2.2.1 hA.2.2.2 i hat (zcls_at _ hy) b hbN (hC.2.2.2.2.2.1 _ (zwd_in w1)) (fun _ h => h) hfin hC.2.2.2.2.2.2.2.1 w3 (hc.2.1 b hbN) f1 f2 (by rw [List.length_map]; exact hb) hd k2
theorem nG_get {k i : Nat} {v : zAV} {q : Nat × List zAV} (hy : y < 12) (hk : nok y (pc, 11, a, b, z, w) = true) (hp : nw_pc es = pc + 3) (hq : cs[i]? = some (.inl q)) (hqy : q.1 = y) (hv : q.2[b]? = some v)
    (IH : nG X base y cs' K S es cs L (v :: st) kc ks) : nG X base y cs' K S ((pc, 11, a, b, z, w) :: es) cs L (vR k i :: st) kc ks := by
  obtain ⟨hd, hw⟩ := nok_dec hk
  obtain ⟨hw, w1⟩ := nand2 hw
  have hbN : b < zfN y := nw_blt hw
  subst hqy
  have hc := zcok_at hy
  refine IH.pure (fun al p e9 s mi args below meth c H locs ls Q hC hA kk => ?_)
  rw [hp] at kk
  have hat := nw_has X (al := al) hq
  exact va_get hC.1 hC.2.1 hC.2.2.2.2.2.1 hc.1 hC.2.2.2.2.1 hC.2.2.2.2.2.2.2.2.1 hA.2.1 i hat (zcls_at _ hy) b hbN (hC.2.2.2.2.2.1 _ (zwd_in w1)) (fun _ h => h) (by rw [List.getElem?_map, hv]; rfl) hd kk
theorem nG_iast {k i : Nat} {x j : Int32} {q : Nat × Nat × List (Nat × Int32)} (hk : nok y (pc, 12, a, b, z, w) = true) (hp : nw_pc es = pc + 1) (hq : cs[i]? = some (.inr (.inl q))) (hq0 : q.1 = 0) (hj : ¬ j < 0) (hj2 : j.toNatClampNeg < q.2.1)
    (IH : nG X base y cs' K S es (cs.set i (.inr (.inl (q.1, q.2.1, (j.toNatClampNeg, x) :: q.2.2)))) L st kc ks) : nG X base y cs' K S ((pc, 12, a, b, z, w) :: es) cs L (vI x :: vI j :: vR k i :: st) kc ks := by
  obtain ⟨hd, -⟩ := nok_dec hk
  refine IH.put (by rw [List.length_set]; exact Nat.le_refl _) (fun o => nw_o_set o rfl) (fun al p e9 s mi args below meth c H locs ls Q hC hA kk => ?_)
  rw [hp] at kk
  have hat := nw_has X (al := al) hq
  obtain ⟨t, N, up⟩ := q
  have hq0 : t = 0 := hq0
  subst hq0
  have e1 : nw_W X al (cs.set i (.inr (.inl (0, N, (j.toNatClampNeg, x) :: up)))) = (nw_W X al cs).set i (al i, .inl (zcA X 0, N, .inl (upd (nw_up up) j.toNatClampNeg x))) := by
    rw [nw_set]
    rfl
  exact va_iast hC.1 hC.2.1 hC.2.2.2.2.2.2.2.2.1 hA.2.1 hA.2.2.1 hA.2.2.2 i 0 (cA := zcA X 0) (n := N) (f := nw_up up) hat (ztys_at X (by omega)) (fun h => h.elim hj (fun h => absurd hj2 (Nat.not_lt.mpr h))) hd (fun H1 locs1 hP hD hS => kk H1 locs1 ls ⟨hA.1, by rw [e1]; exact hP, by rw [e1]; exact hD, hS⟩)
theorem nG_aast {k i k2 v : Nat} {j : Int32} {q : Nat × Nat × List (Nat × Nat)} {u : Nat × List zAV} (hk : nok y (pc, 13, a, b, z, w) = true) (hp : nw_pc es = pc + 1) (hq : cs[i]? = some (.inr (.inr q))) (hu : cs[v]? = some (.inl u)) (hu12 : u.1 < 12) (hty : tyF q.1 = .object (zcl u.1).1) (h7 : q.1 < 7) (hj : ¬ j < 0) (hj2 : j.toNatClampNeg < q.2.1) (hv : v < cs.length)
    (IH : nG X base y cs' K S es (cs.set i (.inr (.inr (q.1, q.2.1, (j.toNatClampNeg, v) :: q.2.2)))) L st kc ks) : nG X base y cs' K S ((pc, 13, a, b, z, w) :: es) cs L (vR k2 v :: vI j :: vR k i :: st) kc ks := by
  obtain ⟨hd, -⟩ := nok_dec hk
  refine IH.put (by rw [List.length_set]; exact Nat.le_refl _) (fun o => nw_o_set o ?_) (fun al p e9 s mi args below meth c H locs ls Q hC hA kk => ?_)
  · have o1 := o _ (List.mem_of_getElem? hq)
    refine List.all_eq_true.mpr fun x hx => ?_
    rcases List.mem_cons.mp hx with rfl | hx
    · exact Nat.ble_eq_true_of_le hv
    · exact List.all_eq_true.mp o1 x hx
  rw [hp] at kk
  have hat := nw_has X (al := al) hq
  have hau := nw_has X (al := al) hu
  have e1 : nw_W X al (cs.set i (.inr (.inr (q.1, q.2.1, (j.toNatClampNeg, v) :: q.2.2)))) = (nw_W X al cs).set i (al i, .inl (zcA X q.1, q.2.1, .inr (.inr (.inr (.inr (va_up (nw_uq al q.2.2) j.toNatClampNeg (some (al v)))))))) := by
    rw [nw_set]
    rfl
  exact va_astq (r := zcl u.1) hC.1 hC.2.1 hC.2.2.2.2.2.2.2.2.1 hA.2.1 hA.2.2.1 hA.2.2.2 i q.1 v u.1 hat (by rw [← hty]; exact ztys_at X h7) hau (zcls_at _ hu12) (fun h => h.elim hj (fun h => by omega)) hd (fun H1 locs1 hP hD hS => kk H1 locs1 ls ⟨hA.1, by rw [e1]; exact hP, by rw [e1]; exact hD, hS⟩)
theorem nG_iinc {x : Int32} (hk : nok y (pc, 14, a, b, z, w) = true) (hp : nw_pc es = pc + 3) (e : zgt L a = vI x) (IH : nG X base y cs' K S es cs (zs1 L a (vI (x + Int32.ofInt z))) st kc ks) : nG X base y cs' K S ((pc, 14, a, b, z, w) :: es) cs L st kc ks := by
  obtain ⟨hd, hw⟩ := nok_dec hk
  have hn : a < nL y := nw_blt hw
  refine IH.put (Nat.le_refl _) (fun o => o) (fun al p e9 s mi args below meth c H locs ls Q hC hA kk => ?_)
  rw [hp] at kk
  have hm : (a, Value.int x) ∈ zlv (nw_ad al) L := by
    refine zlv_mem (v := vI x) ?_ (vI_ne x)
    rw [zgt_eq, List.getD_eq_getElem?_getD] at e
    cases e3 : L[a]? with
    | none => rw [e3] at e; exact absurd e.symm (vI_ne x)
    | some w => rw [e3] at e; exact congrArg some e
  obtain ⟨k0, hk0⟩ := List.getElem?_of_mem hm
  exact lv_iinc hC.1 hC.2.1 hd (zls_has hA.1) hk0 rfl hn rfl (fun ls1 h1 => kk H locs ls1 ⟨zls_s1 (v := vI (x + Int32.ofInt z)) hA.1.2.2.1 h1, hA.2⟩)
theorem nG_icmp {x2 x1 : Int32} (hk : nok y (pc, 15, a, b, z, w) = true) (hp : nw_pc es = pc + 3) (IH1 : x1 < x2 → nG X base y cs' K S es cs L st kc ks) (IH2 : ¬ x1 < x2 → nw_pc (nw_find a (nT y)) = a ∧ nG X base y cs' K S (nw_find a (nT y)) cs L st kc ks) : nG X base y cs' K S ((pc, 15, a, b, z, w) :: es) cs L (vI x2 :: vI x1 :: st) kc ks := by
  obtain ⟨hd, hw⟩ := nok_dec hk
  have hw := of_decide_eq_true hw
  by_cases hx : x1 < x2
  · refine (IH1 hx).pure (fun al p e9 s mi args below meth c H locs ls Q hC hA kk => ?_)
    rw [hp] at kk
    exact lv_icmp_ge hC.1 hC.2.1 hd hw (fun q => absurd hx (Int32.not_lt.mpr q)) (fun _ => kk)
  · obtain ⟨h1, h2⟩ := IH2 hx
    refine h2.pure (fun al p e9 s mi args below meth c H locs ls Q hC hA kk => ?_)
    rw [h1] at kk
    exact lv_icmp_ge hC.1 hC.2.1 hd hw (fun _ => kk) (fun q => absurd (Int32.not_le.mp q) hx)
theorem nG_goto (hk : nok y (pc, 16, a, b, z, w) = true) (hp : nw_pc (nw_find a (nT y)) = a) (IH : nG X base y cs' K S (nw_find a (nT y)) cs L st kc ks) : nG X base y cs' K S ((pc, 16, a, b, z, w) :: es) cs L st kc ks := by
  obtain ⟨hd, hw⟩ := nok_dec hk
  have hw := of_decide_eq_true hw
  refine IH.pure (fun al p e9 s mi args below meth c H locs ls Q hC hA kk => ?_)
  rw [hp] at kk
  exact lv_goto hC.1 hC.2.1 hd hw kk
theorem nG_ret (hk : nok y (pc, 17, a, b, z, w) = true) : nG X base y cs kc ks ((pc, 17, a, b, z, w) :: es) cs L [] kc ks := by
  obtain ⟨hd, hw⟩ := nok_dec hk
  intro al0 n0 al p e s mi args below meth c H locs ls hn ha ho hC hA
  exact W.vret hC.1 hC.2.1 hC.2.2.2.1 (fun t ht _ => ⟨⟨al, rfl, ha, by rw [ht]; exact hA.2.1, hA.2.2.1⟩, hA.2.2.2.F ht⟩) hA.2.2.2.2.2 hd hC.2.2.2.2.2.2.1
theorem nws_good (hy : y < 12) : GoodIn lw_good (nws y) := by
  intro w hw
  rcases List.mem_cons.mp hw with rfl | hw
  · have h1 := (nch_at y hy).2.2
    unfold ncl at h1
    have := zwd_in (nand2 (nand2 (nand2 (nand2 (nand2 (nand2 (nand2 (nand2 (nand2 h1).1).1).1).1).1).1).1).1).1
    exact ⟨this, zgood_all _ this⟩
  · exact ⟨hw, zgood_all _ hw⟩
theorem nhd_of {av : List zAV} {n : Nat} (h : nhd av n = true) : ∃ k i t, av = vR k i :: t ∧ t.length = n ∧ t.all zc1 = true := by
  rcases av with _ | ⟨v, t⟩
  · cases h
  · rcases v with x | x | q | u
    · cases h
    · cases h
    · exact ⟨q.1, q.2, t, rfl, Nat.eq_of_beq_eq_true (nand2 h).1, (nand2 h).2⟩
    · cases h
theorem nlast_all {L : List zAV} {n m : Nat} (h : L.all (nw_v n) = true) : (L.drop m).all (nw_v n) = true := List.all_eq_true.mpr fun v hv => List.all_eq_true.mp h v (List.mem_of_mem_drop hv)
/-- after a call -/
theorem nG_ret2 {cs1 : List nw_C} {k1 s1 : Nat} {st0 : List zAV} (hL : L.all (nw_v cs.length) = true) (ht : st.all (nw_v cs.length) = true) (hl : cs.length ≤ cs1.length) (hno : nw_o cs → nw_o cs1) (IH : nG X base y cs' K S es cs1 L st (kc + k1) (ks + s1)) (hp : nw_pc es = pc + 3)
    {al0 : Nat → Nat} {n0 : Nat} {al : Nat → Nat} {p : Program} {e : Env} {s : State} {mi : MethodId} {args aa : Array Value} {below : List Frame} {meth : Method} {c : Code} {H : Heap} {locs : List Loc} {ls : Array Slot}
    (hn : n0 ≤ cs.length) (ha : ∀ i, i < n0 → al i = al0 i) (ho : nw_o cs) (hC : nCx X base y p s args mi meth c) (hA : nAt X base y al cs s H locs ls L)
    (hr : va_Run p (zl X) e (nrm y K S) s mi args below meth c H locs kc ks k1 s1 (F0 mi pc ls (st0.map (cV (nw_ad al)))) (st.map (cV (nw_ad al))) (nQ X base al cs.length cs1 aa) (nFr base)) :
    W p (zl X) e (nrm y K S) s mi args below meth c H locs kc ks (MQ below (nQ X base al0 n0 cs') args s K S (nFr base)) (F0 mi pc ls (st0.map (cV (nw_ad al)))) := by
  refine va_callv hr hA.2.2.2 (fun q _ h => h) (fun q h => h) (fun u t H1 locs1 e1 _ hpost hB _ _ hS1 => ?_)
  have h1 := IH al0 n0 u p e s mi args below meth c H1 locs1 ls (Nat.le_trans hn hl) (fun i hi => (hpost i (by omega)).trans (ha i hi)) (hno ho) hC ⟨nw_zls hpost hL hA.1, by rw [← e1]; exact hB.1, hB.2, hS1⟩
  rw [hp, nw_map hpost ht] at h1
  exact h1
end
