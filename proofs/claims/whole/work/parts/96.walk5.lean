/-! the law's loop -/
theorem lwti {n : Nat} (h : n < 2 ^ 31) : (nI n).toInt = (n : Int) := Int32.toInt_ofNat_of_lt h
theorem lwand (x : Int32) : ∃ k, k < 32 ∧ x &&& 31 = nI k := by
  refine ⟨(x &&& 31).toBitVec.toNat, ?_, ?_⟩
  · rw [Int32.toBitVec_and, BitVec.toNat_and]
    exact Nat.lt_of_le_of_lt Nat.and_le_right (by decide)
  · apply Int32.toBitVec_inj.mp
    show _ = (Int32.ofNat _).toBitVec
    rw [Int32.toBitVec_ofNat', BitVec.ofNat_toNat, BitVec.setWidth_eq]
theorem lwcmp {L n : Nat} (hL : L ≤ 3072) (hn : n ≤ 3100) : (nI L - nI 6 < nI n ↔ L < n + 6) := by
  have h1 := lwti (n := L) (by omega)
  have h2 := lwti (n := n) (by omega)
  have h3 := lwti (n := 6) (by omega)
  rw [Int32.lt_iff_toInt_lt, fb_subI (by omega) (by omega), h1, h2, h3]
  omega
section
variable {p : Program} {e : Env} {s : State} {m : MethodId} {below : List Frame} {meth : Method} {c : Code} {b : Nat} {kc ks : Nat} {l : Launch} {Xc Xm : zX} {L c1 c2 : Nat} {xs : Nat → Int32}
theorem lwend {H : Heap} {locs : List Loc} {ls : Array Slot} (hx : p.tables.exec = Jvm.exec) (hcd : c.code = code) (hr : meth.sig.returnType = ret) (hlk : meth.locks = false) (hkc : kc ≤ 600000) (hks : ks ≤ 7302250) (hS : va_S (nFr s.heap.size) s.heap H locs) : W p l e room_1 s m #[Value.ref b] below meth c H locs kc ks (lw_Z below #[Value.ref b] s) (F0 m 1267 ls []) := by
  refine va_forget hS.2.2 ?_
  refine W.widen hkc hks ?_
  refine lv_iconst (v := 1) hx hcd (show decode code 1267 = .ok (.iconst 1, 1) by decide +kernel) (by decide) ?_
  exact lw_ret hx hcd hr hlk (show decode code 1268 = .ok (.ireturn, 1) by decide +kernel)
theorem lwloop (hC : lwC l Xc Xm p s m c b L xs c1 c2) (hr : meth.sig.returnType = ret) (hlk : meth.locks = false) (hkc : kc ≤ 600000) (hks : ks ≤ 7302250) : ∀ (f n : Nat), L < n + f → n ≤ L + 6 → ∀ (σc σm : zH) (H : Heap) (locs : List Loc) (ls : Array Slot), zls (lwad b c1 c2) ls 4 (lwL (nI n)) → qR σc σm → lwS Xc Xm s σc σm H locs →
    W p l e room_1 s m #[Value.ref b] below meth c H locs kc ks (lw_Z below #[Value.ref b] s) (F0 m 18 ls [])
  | f, n, hf, hn6, σc, σm, H, locs, ls, hls, hq, hS => by
    obtain ⟨hx, hcd, hml, hown, hts, hXs, hb, hL, hXc, hXm, hdis, -, -⟩ := id hC
    refine lv_iload_n hx hcd (show decode code 18 = .ok (.iload_n 3, 1) by decide +kernel) rfl (zls_ld (v := vI (nI n)) hls rfl (vI_ne _)) ?_
    refine lv_aload_n hx hcd (show decode code 19 = .ok (.aload_n 0, 1) by decide +kernel) rfl (zls_ld (v := vR 0 0) hls rfl (vR_ne 0 0)) ?_
    refine va_slen (A := nFr s.heap.size) hx hcd hXs hb (Nat.not_le.mpr hb) hS.2.2 (show decode code 20 = .ok (.arraylength, 1) by decide +kernel) ?_
    refine lv_bipush (v := nI 6) hx hcd (show decode code 21 = .ok (.bipush 6, 2) by decide +kernel) (by decide) ?_
    refine lv_isub hx hcd (show decode code 23 = .ok (.isub, 1) by decide +kernel) ?_
    refine lv_icmp_gt hx hcd (show decode code 24 = .ok (.if_icmp .gt 1243, 3) by decide +kernel) (tgt := 1267) (by omega) (fun _ => lwend hx hcd hr hlk hkc hks hS.2.2) (fun hlt => ?_)
    have hn5 : n + 5 < L := by
      have := mt (lwcmp hL (n := n) (by omega)).mpr hlt
      omega
    obtain ⟨f, rfl⟩ : ∃ g, f = g + 1 := ⟨f - 1, by omega⟩
    have kk : ∀ (σc' σm' : zH) (H1 : Heap) (locs1 : List Loc), qR σc' σm' → lwS Xc Xm s σc' σm' H1 locs1 → W p l e room_1 s m #[Value.ref b] below meth c H1 locs1 kc ks (lw_Z below #[Value.ref b] s) (F0 m 1261 ls []) := by
      intro σc' σm' H1 locs1 hq1 hS1
      have hmem : (3, Value.int (nI n)) ∈ zlv (lwad b c1 c2) (lwL (nI n)) := zlv_mem (v := vI (nI n)) rfl (vI_ne _)
      obtain ⟨k0, hk0⟩ := List.getElem?_of_mem hmem
      refine lv_iinc hx hcd (show decode code 1261 = .ok (.iinc 3 6, 3) by decide +kernel) (zls_has hls) hk0 rfl (by omega) rfl (fun ls1 h1 => ?_)
      have h2 := zls_s1 (v := vI (nI n + Int32.ofInt 6)) (L := lwL (nI n)) hls.2.2.1 h1
      refine lv_goto hx hcd (show decode code 1264 = .ok (.goto (-1246), 3) by decide +kernel) (tgt := 18) (by omega) ?_
      refine lwloop hC hr hlk hkc hks f (n + 6) (by omega) (by omega) σc' σm' H1 locs1 ls1 ?_ hq1 hS1
      have e6 : nI n + Int32.ofInt 6 = nI (n + 6) := (Int32.ofNat_add n 6).symm
      rw [e6] at h2
      exact h2
    refine lv_aload_n hx hcd (show decode code 27 = .ok (.aload_n 0, 1) by decide +kernel) rfl (zls_ld (v := vR 0 0) hls rfl (vR_ne 0 0)) ?_
    refine lv_iload_n hx hcd (show decode code 28 = .ok (.iload_n 3, 1) by decide +kernel) rfl (zls_ld (v := vI (nI n)) hls rfl (vI_ne _)) ?_
    have e3 : (nI n).toNatClampNeg = n := nI_clamp (by omega)
    refine va_sld (A := nFr s.heap.size) hx hcd hXs hb (Nat.not_le.mpr hb) hS.2.2 (i := nI n) (fun h => ?_) (show decode code 29 = .ok (.iaload, 1) by decide +kernel) ?_
    · rcases h with h | h
      · exact nI_pos (show n < 2 ^ 31 by omega) h
      · rw [e3] at h; omega
    refine lv_bipush (v := nI 31) hx hcd (show decode code 30 = .ok (.bipush 31, 2) by decide +kernel) (by decide) ?_
    refine lv_iand hx hcd (show decode code 32 = .ok (.iand, 1) by decide +kernel) ?_
    have dsw : decode code 33 = .ok (.tableswitch 1228 0 30 #[139, 202, 225, 238, 251, 284, 317, 366, 399, 412, 435, 478, 531, 584, 637, 700, 743, 796, 839, 862, 895, 918, 951, 994, 1017, 1060, 1103, 1136, 1159, 1182, 1205], 139) := by decide +kernel
    obtain ⟨k, hk, ek⟩ := lwand (xs (nI n).toNatClampNeg)
    have ek : xs (nI n).toNatClampNeg &&& nI 31 = nI k := ek
    rw [ek]
    match k, hk with
    | 0, _ => exact lv_tableIn hx hcd dsw (by decide) (by decide) (off := 139) (by decide) (tgt := 172) (by omega) (lwc_0 hC hls hn5 hkc hks hq kk hS)
    | 1, _ => exact lv_tableIn hx hcd dsw (by decide) (by decide) (off := 202) (by decide) (tgt := 235) (by omega) (lwc_1 hC hls hn5 hkc hks hq kk hS)
    | 2, _ => exact lv_tableIn hx hcd dsw (by decide) (by decide) (off := 225) (by decide) (tgt := 258) (by omega) (lwc_2 hC hls hn5 hkc hks hq kk hS)
    | 3, _ => exact lv_tableIn hx hcd dsw (by decide) (by decide) (off := 238) (by decide) (tgt := 271) (by omega) (lwc_3 hC hls hn5 hkc hks hq kk hS)
    | 4, _ => exact lv_tableIn hx hcd dsw (by decide) (by decide) (off := 251) (by decide) (tgt := 284) (by omega) (lwc_4 hC hls hn5 hkc hks hq kk hS)
    | 5, _ => exact lv_tableIn hx hcd dsw (by decide) (by decide) (off := 284) (by decide) (tgt := 317) (by omega) (lwc_5 hC hls hn5 hkc hks hq kk hS)
    | 6, _ => exact lv_tableIn hx hcd dsw (by decide) (by decide) (off := 317) (by decide) (tgt := 350) (by omega) (lwc_6 hC hls hn5 hkc hks hq kk hS)
    | 7, _ => exact lv_tableIn hx hcd dsw (by decide) (by decide) (off := 366) (by decide) (tgt := 399) (by omega) (lwc_7 hC hls hn5 hkc hks hq kk hS)
    | 8, _ => exact lv_tableIn hx hcd dsw (by decide) (by decide) (off := 399) (by decide) (tgt := 432) (by omega) (lwc_8 hC hls hn5 hkc hks hq kk hS)
    | 9, _ => exact lv_tableIn hx hcd dsw (by decide) (by decide) (off := 412) (by decide) (tgt := 445) (by omega) (lwc_9 hC hls hn5 hkc hks hq kk hS)
    | 10, _ => exact lv_tableIn hx hcd dsw (by decide) (by decide) (off := 435) (by decide) (tgt := 468) (by omega) (lwc_10 hC hls hn5 hkc hks hq kk hS)
    | 11, _ => exact lv_tableIn hx hcd dsw (by decide) (by decide) (off := 478) (by decide) (tgt := 511) (by omega) (lwc_11 hC hls hn5 hkc hks hq kk hS)
    | 12, _ => exact lv_tableIn hx hcd dsw (by decide) (by decide) (off := 531) (by decide) (tgt := 564) (by omega) (lwc_12 hC hls hn5 hkc hks hq kk hS)
    | 13, _ => exact lv_tableIn hx hcd dsw (by decide) (by decide) (off := 584) (by decide) (tgt := 617) (by omega) (lwc_13 hC hls hn5 hkc hks hq kk hS)
    | 14, _ => exact lv_tableIn hx hcd dsw (by decide) (by decide) (off := 637) (by decide) (tgt := 670) (by omega) (lwc_14 hC hls hn5 hkc hks hq kk hS)
    | 15, _ => exact lv_tableIn hx hcd dsw (by decide) (by decide) (off := 700) (by decide) (tgt := 733) (by omega) (lwc_15 hC hls hn5 hkc hks hq kk hS)
    | 16, _ => exact lv_tableIn hx hcd dsw (by decide) (by decide) (off := 743) (by decide) (tgt := 776) (by omega) (lwc_16 hC hls hn5 hkc hks hq kk hS)
    | 17, _ => exact lv_tableIn hx hcd dsw (by decide) (by decide) (off := 796) (by decide) (tgt := 829) (by omega) (lwc_17 hC hls hn5 hkc hks hq kk hS)
    | 18, _ => exact lv_tableIn hx hcd dsw (by decide) (by decide) (off := 839) (by decide) (tgt := 872) (by omega) (lwc_18 hC hls hn5 hkc hks hq kk hS)
    | 19, _ => exact lv_tableIn hx hcd dsw (by decide) (by decide) (off := 862) (by decide) (tgt := 895) (by omega) (lwc_19 hC hls hn5 hkc hks hq kk hS)
    | 20, _ => exact lv_tableIn hx hcd dsw (by decide) (by decide) (off := 895) (by decide) (tgt := 928) (by omega) (lwc_20 hC hls hn5 hkc hks hq kk hS)
    | 21, _ => exact lv_tableIn hx hcd dsw (by decide) (by decide) (off := 918) (by decide) (tgt := 951) (by omega) (lwc_21 hC hls hn5 hkc hks hq kk hS)
    | 22, _ => exact lv_tableIn hx hcd dsw (by decide) (by decide) (off := 951) (by decide) (tgt := 984) (by omega) (lwc_22 hC hls hn5 hkc hks hq kk hS)
    | 23, _ => exact lv_tableIn hx hcd dsw (by decide) (by decide) (off := 994) (by decide) (tgt := 1027) (by omega) (lwc_23 hC hls hn5 hkc hks hq kk hS)
    | 24, _ => exact lv_tableIn hx hcd dsw (by decide) (by decide) (off := 1017) (by decide) (tgt := 1050) (by omega) (lwc_24 hC hls hn5 hkc hks hq kk hS)
    | 25, _ => exact lv_tableIn hx hcd dsw (by decide) (by decide) (off := 1060) (by decide) (tgt := 1093) (by omega) (lwc_25 hC hls hn5 hkc hks hq kk hS)
    | 26, _ => exact lv_tableIn hx hcd dsw (by decide) (by decide) (off := 1103) (by decide) (tgt := 1136) (by omega) (lwc_26 hC hls hn5 hkc hks hq kk hS)
    | 27, _ => exact lv_tableIn hx hcd dsw (by decide) (by decide) (off := 1136) (by decide) (tgt := 1169) (by omega) (lwc_27 hC hls hn5 hkc hks hq kk hS)
    | 28, _ => exact lv_tableIn hx hcd dsw (by decide) (by decide) (off := 1159) (by decide) (tgt := 1192) (by omega) (lwc_28 hC hls hn5 hkc hks hq kk hS)
    | 29, _ => exact lv_tableIn hx hcd dsw (by decide) (by decide) (off := 1182) (by decide) (tgt := 1215) (by omega) (lwc_29 hC hls hn5 hkc hks hq kk hS)
    | 30, _ => exact lv_tableIn hx hcd dsw (by decide) (by decide) (off := 1205) (by decide) (tgt := 1238) (by omega) (lwc_30 hC hls hn5 hkc hks hq kk hS)
    | 31, _ => exact lv_tableOut hx hcd dsw (Or.inr (by decide)) (tgt := 1261) (by omega) (kk σc σm H locs hq hS)
    | k + 32, hk => omega
end
