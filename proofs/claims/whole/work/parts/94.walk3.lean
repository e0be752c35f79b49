/-! the cases of the law, by program (wip/whole/gen_law.py) -/
theorem lwz_0 (xs : Nat → Int32) (n : Nat) : lwz xs n 0 = [] := rfl
theorem lwz_1 (xs : Nat → Int32) (n : Nat) : lwz xs n 1 = [vI (xs (n + 1))] := rfl
theorem lwz_2 (xs : Nat → Int32) (n : Nat) : lwz xs n 2 = [vI (xs (n + 1)), vI (xs (n + 2))] := rfl
theorem lwz_3 (xs : Nat → Int32) (n : Nat) : lwz xs n 3 = [vI (xs (n + 1)), vI (xs (n + 2)), vI (xs (n + 3))] := rfl
theorem lwz_4 (xs : Nat → Int32) (n : Nat) : lwz xs n 4 = [vI (xs (n + 1)), vI (xs (n + 2)), vI (xs (n + 3)), vI (xs (n + 4))] := rfl
theorem lwz_5 (xs : Nat → Int32) (n : Nat) : lwz xs n 5 = [vI (xs (n + 1)), vI (xs (n + 2)), vI (xs (n + 3)), vI (xs (n + 4)), vI (xs (n + 5))] := rfl
section
variable {p : Program} {e : Env} {s : State} {m : MethodId} {below : List Frame} {meth : Method} {c : Code} {b : Nat} {H : Heap} {locs : List Loc} {kc ks : Nat} {Q : State → Prop} {ls : Array Slot} {l : Launch} {Xc Xm : zX} {L c1 c2 : Nat} {xs : Nat → Int32}
theorem lwc_0 {σc σm : zH} {n : Nat} (hC : lwC l Xc Xm p s m c b L xs c1 c2) (hls : zls (lwad b c1 c2) ls 4 (lwL (nI n))) (hn : n + 5 < L) (hkc : kc ≤ 600000) (hks : ks ≤ 7302250) (hq : qR σc σm) (kk : ∀ (σc' σm' : zH) (H1 : Heap) (locs1 : List Loc), qR σc' σm' → lwS Xc Xm s σc' σm' H1 locs1 → W p l e room_1 s m #[Value.ref b] below meth c H1 locs1 kc ks Q (F0 m 1261 ls [])) (hS : lwS Xc Xm s σc σm H locs) : W p l e room_1 s m #[Value.ref b] below meth c H locs kc ks Q (F0 m 172 ls []) := by
  refine lwcase (k := 5) (z1 := 13) (z2 := 17) (mc := 91) (mm := 132) (w1 := 518) (w2 := 1330) hC hls hn (by omega) (by decide +kernel) (by decide +kernel) ?_ hkc hks kk hS
  have h1 := lwz_I xs n 5
  rw [lwz_5] at h1 ⊢
  exact lwp_of (r_feed hq _ _ _ _ _) (fun q r h => c_X10_feed hC.2.2.2.2.2.2.2.2.1.2.1 h (lwvv hC.2.2.2.2.2.2.2.2.2.2.2.1.2 h1)) (fun q r h => c_X11_feed hC.2.2.2.2.2.2.2.2.2.1.2.1 h (lwvv hC.2.2.2.2.2.2.2.2.2.2.2.2.2 h1))
theorem lwc_1 {σc σm : zH} {n : Nat} (hC : lwC l Xc Xm p s m c b L xs c1 c2) (hls : zls (lwad b c1 c2) ls 4 (lwL (nI n))) (hn : n + 5 < L) (hkc : kc ≤ 600000) (hks : ks ≤ 7302250) (hq : qR σc σm) (kk : ∀ (σc' σm' : zH) (H1 : Heap) (locs1 : List Loc), qR σc' σm' → lwS Xc Xm s σc' σm' H1 locs1 → W p l e room_1 s m #[Value.ref b] below meth c H1 locs1 kc ks Q (F0 m 1261 ls [])) (hS : lwS Xc Xm s σc σm H locs) : W p l e room_1 s m #[Value.ref b] below meth c H locs kc ks Q (F0 m 235 ls []) := by
  refine lwcase (k := 1) (z1 := 18) (z2 := 22) (mc := 92) (mm := 134) (w1 := 526) (w2 := 1338) hC hls hn (by omega) (by decide +kernel) (by decide +kernel) ?_ hkc hks kk hS
  have h1 := lwz_I xs n 1
  rw [lwz_1] at h1 ⊢
  exact lwp_of (r_end hq _) (fun q r h => c_X10_end hC.2.2.2.2.2.2.2.2.1.2.1 h (lwvv hC.2.2.2.2.2.2.2.2.2.2.2.1.2 h1)) (fun q r h => c_X11_end hC.2.2.2.2.2.2.2.2.2.1.2.1 h (lwvv hC.2.2.2.2.2.2.2.2.2.2.2.2.2 h1))
theorem lwc_2 {σc σm : zH} {n : Nat} (hC : lwC l Xc Xm p s m c b L xs c1 c2) (hls : zls (lwad b c1 c2) ls 4 (lwL (nI n))) (hn : n + 5 < L) (hkc : kc ≤ 600000) (hks : ks ≤ 7302250) (hq : qR σc σm) (kk : ∀ (σc' σm' : zH) (H1 : Heap) (locs1 : List Loc), qR σc' σm' → lwS Xc Xm s σc' σm' H1 locs1 → W p l e room_1 s m #[Value.ref b] below meth c H1 locs1 kc ks Q (F0 m 1261 ls [])) (hS : lwS Xc Xm s σc σm H locs) : W p l e room_1 s m #[Value.ref b] below meth c H locs kc ks Q (F0 m 258 ls []) := by
  refine lwcase (k := 0) (z1 := 23) (z2 := 27) (mc := 93) (mm := 161) (w1 := 530) (w2 := 1342) hC hls hn (by omega) (by decide +kernel) (by decide +kernel) ?_ hkc hks kk hS
  have h1 := lwz_I xs n 0
  rw [lwz_0] at h1 ⊢
  exact lwp_of (r_barracks hq) (fun q r h => c_X10_barracks hC.2.2.2.2.2.2.2.2.1.2.1 h (lwvv hC.2.2.2.2.2.2.2.2.2.2.2.1.2 h1)) (fun q r h => c_X11_barracks hC.2.2.2.2.2.2.2.2.2.1.2.1 h (lwvv hC.2.2.2.2.2.2.2.2.2.2.2.2.2 h1))
theorem lwc_3 {σc σm : zH} {n : Nat} (hC : lwC l Xc Xm p s m c b L xs c1 c2) (hls : zls (lwad b c1 c2) ls 4 (lwL (nI n))) (hn : n + 5 < L) (hkc : kc ≤ 600000) (hks : ks ≤ 7302250) (hq : qR σc σm) (kk : ∀ (σc' σm' : zH) (H1 : Heap) (locs1 : List Loc), qR σc' σm' → lwS Xc Xm s σc' σm' H1 locs1 → W p l e room_1 s m #[Value.ref b] below meth c H1 locs1 kc ks Q (F0 m 1261 ls [])) (hS : lwS Xc Xm s σc σm H locs) : W p l e room_1 s m #[Value.ref b] below meth c H locs kc ks Q (F0 m 271 ls []) := by
  refine lwcase (k := 0) (z1 := 28) (z2 := 31) (mc := 94) (mm := 163) (w1 := 690) (w2 := 1412) hC hls hn (by omega) (by decide +kernel) (by decide +kernel) ?_ hkc hks kk hS
  have h1 := lwz_I xs n 0
  rw [lwz_0] at h1 ⊢
  exact lwp_of (r_law hq) (fun q r h => c_X10_law hC.2.2.2.2.2.2.2.2.1.2.1 h (lwvv hC.2.2.2.2.2.2.2.2.2.2.2.1.2 h1)) (fun q r h => c_X11_law hC.2.2.2.2.2.2.2.2.2.1.2.1 h (lwvv hC.2.2.2.2.2.2.2.2.2.2.2.2.2 h1))
theorem lwc_4 {σc σm : zH} {n : Nat} (hC : lwC l Xc Xm p s m c b L xs c1 c2) (hls : zls (lwad b c1 c2) ls 4 (lwL (nI n))) (hn : n + 5 < L) (hkc : kc ≤ 600000) (hks : ks ≤ 7302250) (hq : qR σc σm) (kk : ∀ (σc' σm' : zH) (H1 : Heap) (locs1 : List Loc), qR σc' σm' → lwS Xc Xm s σc' σm' H1 locs1 → W p l e room_1 s m #[Value.ref b] below meth c H1 locs1 kc ks Q (F0 m 1261 ls [])) (hS : lwS Xc Xm s σc σm H locs) : W p l e room_1 s m #[Value.ref b] below meth c H locs kc ks Q (F0 m 284 ls []) := by
  refine lwcase (k := 2) (z1 := 32) (z2 := 36) (mc := 95) (mm := 181) (w1 := 789) (w2 := 1480) hC hls hn (by omega) (by decide +kernel) (by decide +kernel) ?_ hkc hks kk hS
  have h1 := lwz_I xs n 2
  rw [lwz_2] at h1 ⊢
  exact lwp_of (r_tick hq _ _) (fun q r h => c_X10_tick hC.2.2.2.2.2.2.2.2.1.2.1 h (lwvv hC.2.2.2.2.2.2.2.2.2.2.2.1.2 h1)) (fun q r h => c_X11_tick hC.2.2.2.2.2.2.2.2.2.1.2.1 h (lwvv hC.2.2.2.2.2.2.2.2.2.2.2.2.2 h1))
theorem lwc_5 {σc σm : zH} {n : Nat} (hC : lwC l Xc Xm p s m c b L xs c1 c2) (hls : zls (lwad b c1 c2) ls 4 (lwL (nI n))) (hn : n + 5 < L) (hkc : kc ≤ 600000) (hks : ks ≤ 7302250) (hq : qR σc σm) (kk : ∀ (σc' σm' : zH) (H1 : Heap) (locs1 : List Loc), qR σc' σm' → lwS Xc Xm s σc' σm' H1 locs1 → W p l e room_1 s m #[Value.ref b] below meth c H1 locs1 kc ks Q (F0 m 1261 ls [])) (hS : lwS Xc Xm s σc σm H locs) : W p l e room_1 s m #[Value.ref b] below meth c H locs kc ks Q (F0 m 317 ls []) := by
  refine lwcase (k := 2) (z1 := 37) (z2 := 40) (mc := 103) (mm := 182) (w1 := 935) (w2 := 1574) hC hls hn (by omega) (by decide +kernel) (by decide +kernel) ?_ hkc hks kk hS
  have h1 := lwz_I xs n 2
  rw [lwz_2] at h1 ⊢
  exact lwp_of (r_company hq _ _) (fun q r h => c_X10_company hC.2.2.2.2.2.2.2.2.1.2.1 h (lwvv hC.2.2.2.2.2.2.2.2.2.2.2.1.2 h1)) (fun q r h => c_X11_company hC.2.2.2.2.2.2.2.2.2.1.2.1 h (lwvv hC.2.2.2.2.2.2.2.2.2.2.2.2.2 h1))
theorem lwc_7 {σc σm : zH} {n : Nat} (hC : lwC l Xc Xm p s m c b L xs c1 c2) (hls : zls (lwad b c1 c2) ls 4 (lwL (nI n))) (hn : n + 5 < L) (hkc : kc ≤ 600000) (hks : ks ≤ 7302250) (hq : qR σc σm) (kk : ∀ (σc' σm' : zH) (H1 : Heap) (locs1 : List Loc), qR σc' σm' → lwS Xc Xm s σc' σm' H1 locs1 → W p l e room_1 s m #[Value.ref b] below meth c H1 locs1 kc ks Q (F0 m 1261 ls [])) (hS : lwS Xc Xm s σc σm H locs) : W p l e room_1 s m #[Value.ref b] below meth c H locs kc ks Q (F0 m 399 ls []) := by
  refine lwcase (k := 2) (z1 := 46) (z2 := 49) (mc := 97) (mm := 184) (w1 := 897) (w2 := 1586) hC hls hn (by omega) (by decide +kernel) (by decide +kernel) ?_ hkc hks kk hS
  have h1 := lwz_I xs n 2
  rw [lwz_2] at h1 ⊢
  exact lwp_of (r_tires hq _ _) (fun q r h => c_X10_tires hC.2.2.2.2.2.2.2.2.1.2.1 h (lwvv hC.2.2.2.2.2.2.2.2.2.2.2.1.2 h1)) (fun q r h => c_X11_tires hC.2.2.2.2.2.2.2.2.2.1.2.1 h (lwvv hC.2.2.2.2.2.2.2.2.2.2.2.2.2 h1))
theorem lwc_8 {σc σm : zH} {n : Nat} (hC : lwC l Xc Xm p s m c b L xs c1 c2) (hls : zls (lwad b c1 c2) ls 4 (lwL (nI n))) (hn : n + 5 < L) (hkc : kc ≤ 600000) (hks : ks ≤ 7302250) (hq : qR σc σm) (kk : ∀ (σc' σm' : zH) (H1 : Heap) (locs1 : List Loc), qR σc' σm' → lwS Xc Xm s σc' σm' H1 locs1 → W p l e room_1 s m #[Value.ref b] below meth c H1 locs1 kc ks Q (F0 m 1261 ls [])) (hS : lwS Xc Xm s σc σm H locs) : W p l e room_1 s m #[Value.ref b] below meth c H locs kc ks Q (F0 m 432 ls []) := by
  refine lwcase (k := 0) (z1 := 50) (z2 := 53) (mc := 98) (mm := 185) (w1 := 901) (w2 := 1591) hC hls hn (by omega) (by decide +kernel) (by decide +kernel) ?_ hkc hks kk hS
  have h1 := lwz_I xs n 0
  rw [lwz_0] at h1 ⊢
  exact lwp_of (r_drum hq) (fun q r h => c_X10_drum hC.2.2.2.2.2.2.2.2.1.2.1 h (lwvv hC.2.2.2.2.2.2.2.2.2.2.2.1.2 h1)) (fun q r h => c_X11_drum hC.2.2.2.2.2.2.2.2.2.1.2.1 h (lwvv hC.2.2.2.2.2.2.2.2.2.2.2.2.2 h1))
theorem lwc_9 {σc σm : zH} {n : Nat} (hC : lwC l Xc Xm p s m c b L xs c1 c2) (hls : zls (lwad b c1 c2) ls 4 (lwL (nI n))) (hn : n + 5 < L) (hkc : kc ≤ 600000) (hks : ks ≤ 7302250) (hq : qR σc σm) (kk : ∀ (σc' σm' : zH) (H1 : Heap) (locs1 : List Loc), qR σc' σm' → lwS Xc Xm s σc' σm' H1 locs1 → W p l e room_1 s m #[Value.ref b] below meth c H1 locs1 kc ks Q (F0 m 1261 ls [])) (hS : lwS Xc Xm s σc σm H locs) : W p l e room_1 s m #[Value.ref b] below meth c H locs kc ks Q (F0 m 445 ls []) := by
  refine lwcase (k := 1) (z1 := 54) (z2 := 57) (mc := 99) (mm := 186) (w1 := 909) (w2 := 1595) hC hls hn (by omega) (by decide +kernel) (by decide +kernel) ?_ hkc hks kk hS
  have h1 := lwz_I xs n 1
  rw [lwz_1] at h1 ⊢
  exact lwp_of (r_feast hq _) (fun q r h => c_X10_feast hC.2.2.2.2.2.2.2.2.1.2.1 h (lwvv hC.2.2.2.2.2.2.2.2.2.2.2.1.2 h1)) (fun q r h => c_X11_feast hC.2.2.2.2.2.2.2.2.2.1.2.1 h (lwvv hC.2.2.2.2.2.2.2.2.2.2.2.2.2 h1))
theorem lwc_10 {σc σm : zH} {n : Nat} (hC : lwC l Xc Xm p s m c b L xs c1 c2) (hls : zls (lwad b c1 c2) ls 4 (lwL (nI n))) (hn : n + 5 < L) (hkc : kc ≤ 600000) (hks : ks ≤ 7302250) (hq : qR σc σm) (kk : ∀ (σc' σm' : zH) (H1 : Heap) (locs1 : List Loc), qR σc' σm' → lwS Xc Xm s σc' σm' H1 locs1 → W p l e room_1 s m #[Value.ref b] below meth c H1 locs1 kc ks Q (F0 m 1261 ls [])) (hS : lwS Xc Xm s σc σm H locs) : W p l e room_1 s m #[Value.ref b] below meth c H locs kc ks Q (F0 m 468 ls []) := by
  refine lwcase (k := 3) (z1 := 58) (z2 := 62) (mc := 110) (mm := 190) (w1 := 990) (w2 := 1599) hC hls hn (by omega) (by decide +kernel) (by decide +kernel) ?_ hkc hks kk hS
  have h1 := lwz_I xs n 3
  rw [lwz_3] at h1 ⊢
  exact lwp_of (r_ahead hq _ _ _) (fun q r h => c_X10_ahead hC.2.2.2.2.2.2.2.2.1.2.1 h (lwvv hC.2.2.2.2.2.2.2.2.2.2.2.1.2 h1)) (fun q r h => c_X11_ahead hC.2.2.2.2.2.2.2.2.2.1.2.1 h (lwvv hC.2.2.2.2.2.2.2.2.2.2.2.2.2 h1))
theorem lwc_11 {σc σm : zH} {n : Nat} (hC : lwC l Xc Xm p s m c b L xs c1 c2) (hls : zls (lwad b c1 c2) ls 4 (lwL (nI n))) (hn : n + 5 < L) (hkc : kc ≤ 600000) (hks : ks ≤ 7302250) (hq : qR σc σm) (kk : ∀ (σc' σm' : zH) (H1 : Heap) (locs1 : List Loc), qR σc' σm' → lwS Xc Xm s σc' σm' H1 locs1 → W p l e room_1 s m #[Value.ref b] below meth c H1 locs1 kc ks Q (F0 m 1261 ls [])) (hS : lwS Xc Xm s σc σm H locs) : W p l e room_1 s m #[Value.ref b] below meth c H locs kc ks Q (F0 m 511 ls []) := by
  refine lwcase (k := 4) (z1 := 63) (z2 := 67) (mc := 111) (mm := 191) (w1 := 1013) (w2 := 1618) hC hls hn (by omega) (by decide +kernel) (by decide +kernel) ?_ hkc hks kk hS
  have h1 := lwz_I xs n 4
  rw [lwz_4] at h1 ⊢
  exact lwp_of (r_struck hq _ _ _ _) (fun q r h => c_X10_struck hC.2.2.2.2.2.2.2.2.1.2.1 h (lwvv hC.2.2.2.2.2.2.2.2.2.2.2.1.2 h1)) (fun q r h => c_X11_struck hC.2.2.2.2.2.2.2.2.2.1.2.1 h (lwvv hC.2.2.2.2.2.2.2.2.2.2.2.2.2 h1))
theorem lwc_12 {σc σm : zH} {n : Nat} (hC : lwC l Xc Xm p s m c b L xs c1 c2) (hls : zls (lwad b c1 c2) ls 4 (lwL (nI n))) (hn : n + 5 < L) (hkc : kc ≤ 600000) (hks : ks ≤ 7302250) (hq : qR σc σm) (kk : ∀ (σc' σm' : zH) (H1 : Heap) (locs1 : List Loc), qR σc' σm' → lwS Xc Xm s σc' σm' H1 locs1 → W p l e room_1 s m #[Value.ref b] below meth c H1 locs1 kc ks Q (F0 m 1261 ls [])) (hS : lwS Xc Xm s σc σm H locs) : W p l e room_1 s m #[Value.ref b] below meth c H locs kc ks Q (F0 m 564 ls []) := by
  refine lwcase (k := 4) (z1 := 68) (z2 := 71) (mc := 112) (mm := 193) (w1 := 1022) (w2 := 1622) hC hls hn (by omega) (by decide +kernel) (by decide +kernel) ?_ hkc hks kk hS
  have h1 := lwz_I xs n 4
  rw [lwz_4] at h1 ⊢
  exact lwp_of (r_turned hq _ _ _ _) (fun q r h => c_X10_turned hC.2.2.2.2.2.2.2.2.1.2.1 h (lwvv hC.2.2.2.2.2.2.2.2.2.2.2.1.2 h1)) (fun q r h => c_X11_turned hC.2.2.2.2.2.2.2.2.2.1.2.1 h (lwvv hC.2.2.2.2.2.2.2.2.2.2.2.2.2 h1))
theorem lwc_13 {σc σm : zH} {n : Nat} (hC : lwC l Xc Xm p s m c b L xs c1 c2) (hls : zls (lwad b c1 c2) ls 4 (lwL (nI n))) (hn : n + 5 < L) (hkc : kc ≤ 600000) (hks : ks ≤ 7302250) (hq : qR σc σm) (kk : ∀ (σc' σm' : zH) (H1 : Heap) (locs1 : List Loc), qR σc' σm' → lwS Xc Xm s σc' σm' H1 locs1 → W p l e room_1 s m #[Value.ref b] below meth c H1 locs1 kc ks Q (F0 m 1261 ls [])) (hS : lwS Xc Xm s σc σm H locs) : W p l e room_1 s m #[Value.ref b] below meth c H locs kc ks Q (F0 m 617 ls []) := by
  refine lwcase (k := 4) (z1 := 72) (z2 := 75) (mc := 113) (mm := 196) (w1 := 1034) (w2 := 1631) hC hls hn (by omega) (by decide +kernel) (by decide +kernel) ?_ hkc hks kk hS
  have h1 := lwz_I xs n 4
  rw [lwz_4] at h1 ⊢
  exact lwp_of (r_mutiny hq _ _ _ _) (fun q r h => c_X10_mutiny hC.2.2.2.2.2.2.2.2.1.2.1 h (lwvv hC.2.2.2.2.2.2.2.2.2.2.2.1.2 h1)) (fun q r h => c_X11_mutiny hC.2.2.2.2.2.2.2.2.2.1.2.1 h (lwvv hC.2.2.2.2.2.2.2.2.2.2.2.2.2 h1))
theorem lwc_14 {σc σm : zH} {n : Nat} (hC : lwC l Xc Xm p s m c b L xs c1 c2) (hls : zls (lwad b c1 c2) ls 4 (lwL (nI n))) (hn : n + 5 < L) (hkc : kc ≤ 600000) (hks : ks ≤ 7302250) (hq : qR σc σm) (kk : ∀ (σc' σm' : zH) (H1 : Heap) (locs1 : List Loc), qR σc' σm' → lwS Xc Xm s σc' σm' H1 locs1 → W p l e room_1 s m #[Value.ref b] below meth c H1 locs1 kc ks Q (F0 m 1261 ls [])) (hS : lwS Xc Xm s σc σm H locs) : W p l e room_1 s m #[Value.ref b] below meth c H locs kc ks Q (F0 m 670 ls []) := by
  refine lwcase (k := 5) (z1 := 76) (z2 := 79) (mc := 114) (mm := 197) (w1 := 1058) (w2 := 1643) hC hls hn (by omega) (by decide +kernel) (by decide +kernel) ?_ hkc hks kk hS
  have h1 := lwz_I xs n 5
  rw [lwz_5] at h1 ⊢
  exact lwp_of (r_crest hq _ _ _ _ _) (fun q r h => c_X10_crest hC.2.2.2.2.2.2.2.2.1.2.1 h (lwvv hC.2.2.2.2.2.2.2.2.2.2.2.1.2 h1)) (fun q r h => c_X11_crest hC.2.2.2.2.2.2.2.2.2.1.2.1 h (lwvv hC.2.2.2.2.2.2.2.2.2.2.2.2.2 h1))
theorem lwc_15 {σc σm : zH} {n : Nat} (hC : lwC l Xc Xm p s m c b L xs c1 c2) (hls : zls (lwad b c1 c2) ls 4 (lwL (nI n))) (hn : n + 5 < L) (hkc : kc ≤ 600000) (hks : ks ≤ 7302250) (hq : qR σc σm) (kk : ∀ (σc' σm' : zH) (H1 : Heap) (locs1 : List Loc), qR σc' σm' → lwS Xc Xm s σc' σm' H1 locs1 → W p l e room_1 s m #[Value.ref b] below meth c H1 locs1 kc ks Q (F0 m 1261 ls [])) (hS : lwS Xc Xm s σc σm H locs) : W p l e room_1 s m #[Value.ref b] below meth c H locs kc ks Q (F0 m 733 ls []) := by
  refine lwcase (k := 3) (z1 := 80) (z2 := 83) (mc := 115) (mm := 200) (w1 := 1062) (w2 := 1647) hC hls hn (by omega) (by decide +kernel) (by decide +kernel) ?_ hkc hks kk hS
  have h1 := lwz_I xs n 3
  rw [lwz_3] at h1 ⊢
  exact lwp_of (r_dream hq _ _ _) (fun q r h => c_X10_dream hC.2.2.2.2.2.2.2.2.1.2.1 h (lwvv hC.2.2.2.2.2.2.2.2.2.2.2.1.2 h1)) (fun q r h => c_X11_dream hC.2.2.2.2.2.2.2.2.2.1.2.1 h (lwvv hC.2.2.2.2.2.2.2.2.2.2.2.2.2 h1))
theorem lwc_16 {σc σm : zH} {n : Nat} (hC : lwC l Xc Xm p s m c b L xs c1 c2) (hls : zls (lwad b c1 c2) ls 4 (lwL (nI n))) (hn : n + 5 < L) (hkc : kc ≤ 600000) (hks : ks ≤ 7302250) (hq : qR σc σm) (kk : ∀ (σc' σm' : zH) (H1 : Heap) (locs1 : List Loc), qR σc' σm' → lwS Xc Xm s σc' σm' H1 locs1 → W p l e room_1 s m #[Value.ref b] below meth c H1 locs1 kc ks Q (F0 m 1261 ls [])) (hS : lwS Xc Xm s σc σm H locs) : W p l e room_1 s m #[Value.ref b] below meth c H locs kc ks Q (F0 m 776 ls []) := by
  refine lwcase (k := 4) (z1 := 84) (z2 := 87) (mc := 116) (mm := 201) (w1 := 1074) (w2 := 1659) hC hls hn (by omega) (by decide +kernel) (by decide +kernel) ?_ hkc hks kk hS
  have h1 := lwz_I xs n 4
  rw [lwz_4] at h1 ⊢
  exact lwp_of (r_told hq _ _ _ _) (fun q r h => c_X10_told hC.2.2.2.2.2.2.2.2.1.2.1 h (lwvv hC.2.2.2.2.2.2.2.2.2.2.2.1.2 h1)) (fun q r h => c_X11_told hC.2.2.2.2.2.2.2.2.2.1.2.1 h (lwvv hC.2.2.2.2.2.2.2.2.2.2.2.2.2 h1))
theorem lwc_17 {σc σm : zH} {n : Nat} (hC : lwC l Xc Xm p s m c b L xs c1 c2) (hls : zls (lwad b c1 c2) ls 4 (lwL (nI n))) (hn : n + 5 < L) (hkc : kc ≤ 600000) (hks : ks ≤ 7302250) (hq : qR σc σm) (kk : ∀ (σc' σm' : zH) (H1 : Heap) (locs1 : List Loc), qR σc' σm' → lwS Xc Xm s σc' σm' H1 locs1 → W p l e room_1 s m #[Value.ref b] below meth c H1 locs1 kc ks Q (F0 m 1261 ls [])) (hS : lwS Xc Xm s σc σm H locs) : W p l e room_1 s m #[Value.ref b] below meth c H locs kc ks Q (F0 m 829 ls []) := by
  refine lwcase (k := 3) (z1 := 88) (z2 := 91) (mc := 117) (mm := 202) (w1 := 1078) (w2 := 1663) hC hls hn (by omega) (by decide +kernel) (by decide +kernel) ?_ hkc hks kk hS
  have h1 := lwz_I xs n 3
  rw [lwz_3] at h1 ⊢
  exact lwp_of (r_harm hq _ _ _) (fun q r h => c_X10_harm hC.2.2.2.2.2.2.2.2.1.2.1 h (lwvv hC.2.2.2.2.2.2.2.2.2.2.2.1.2 h1)) (fun q r h => c_X11_harm hC.2.2.2.2.2.2.2.2.2.1.2.1 h (lwvv hC.2.2.2.2.2.2.2.2.2.2.2.2.2 h1))
theorem lwc_18 {σc σm : zH} {n : Nat} (hC : lwC l Xc Xm p s m c b L xs c1 c2) (hls : zls (lwad b c1 c2) ls 4 (lwL (nI n))) (hn : n + 5 < L) (hkc : kc ≤ 600000) (hks : ks ≤ 7302250) (hq : qR σc σm) (kk : ∀ (σc' σm' : zH) (H1 : Heap) (locs1 : List Loc), qR σc' σm' → lwS Xc Xm s σc' σm' H1 locs1 → W p l e room_1 s m #[Value.ref b] below meth c H1 locs1 kc ks Q (F0 m 1261 ls [])) (hS : lwS Xc Xm s σc σm H locs) : W p l e room_1 s m #[Value.ref b] below meth c H locs kc ks Q (F0 m 872 ls []) := by
  refine lwcase (k := 1) (z1 := 92) (z2 := 95) (mc := 106) (mm := 203) (w1 := 948) (w2 := 1667) hC hls hn (by omega) (by decide +kernel) (by decide +kernel) ?_ hkc hks kk hS
  have h1 := lwz_I xs n 1
  rw [lwz_1] at h1 ⊢
  exact lwp_of (r_log hq _) (fun q r h => c_X10_log hC.2.2.2.2.2.2.2.2.1.2.1 h (lwvv hC.2.2.2.2.2.2.2.2.2.2.2.1.2 h1)) (fun q r h => c_X11_log hC.2.2.2.2.2.2.2.2.2.1.2.1 h (lwvv hC.2.2.2.2.2.2.2.2.2.2.2.2.2 h1))
theorem lwc_19 {σc σm : zH} {n : Nat} (hC : lwC l Xc Xm p s m c b L xs c1 c2) (hls : zls (lwad b c1 c2) ls 4 (lwL (nI n))) (hn : n + 5 < L) (hkc : kc ≤ 600000) (hks : ks ≤ 7302250) (hq : qR σc σm) (kk : ∀ (σc' σm' : zH) (H1 : Heap) (locs1 : List Loc), qR σc' σm' → lwS Xc Xm s σc' σm' H1 locs1 → W p l e room_1 s m #[Value.ref b] below meth c H1 locs1 kc ks Q (F0 m 1261 ls [])) (hS : lwS Xc Xm s σc σm H locs) : W p l e room_1 s m #[Value.ref b] below meth c H locs kc ks Q (F0 m 895 ls []) := by
  refine lwcase (k := 2) (z1 := 96) (z2 := 99) (mc := 107) (mm := 204) (w1 := 956) (w2 := 1671) hC hls hn (by omega) (by decide +kernel) (by decide +kernel) ?_ hkc hks kk hS
  have h1 := lwz_I xs n 2
  rw [lwz_2] at h1 ⊢
  exact lwp_of (r_both hq _ _) (fun q r h => c_X10_both hC.2.2.2.2.2.2.2.2.1.2.1 h (lwvv hC.2.2.2.2.2.2.2.2.2.2.2.1.2 h1)) (fun q r h => c_X11_both_ hC.2.2.2.2.2.2.2.2.2.1.2.1 h (lwvv hC.2.2.2.2.2.2.2.2.2.2.2.2.2 h1))
theorem lwc_20 {σc σm : zH} {n : Nat} (hC : lwC l Xc Xm p s m c b L xs c1 c2) (hls : zls (lwad b c1 c2) ls 4 (lwL (nI n))) (hn : n + 5 < L) (hkc : kc ≤ 600000) (hks : ks ≤ 7302250) (hq : qR σc σm) (kk : ∀ (σc' σm' : zH) (H1 : Heap) (locs1 : List Loc), qR σc' σm' → lwS Xc Xm s σc' σm' H1 locs1 → W p l e room_1 s m #[Value.ref b] below meth c H1 locs1 kc ks Q (F0 m 1261 ls [])) (hS : lwS Xc Xm s σc σm H locs) : W p l e room_1 s m #[Value.ref b] below meth c H locs kc ks Q (F0 m 928 ls []) := by
  refine lwcase (k := 1) (z1 := 100) (z2 := 103) (mc := 108) (mm := 205) (w1 := 965) (w2 := 1675) hC hls hn (by omega) (by decide +kernel) (by decide +kernel) ?_ hkc hks kk hS
  have h1 := lwz_I xs n 1
  rw [lwz_1] at h1 ⊢
  exact lwp_of (r_run hq _) (fun q r h => c_X10_run hC.2.2.2.2.2.2.2.2.1.2.1 h (lwvv hC.2.2.2.2.2.2.2.2.2.2.2.1.2 h1)) (fun q r h => c_X11_run hC.2.2.2.2.2.2.2.2.2.1.2.1 h (lwvv hC.2.2.2.2.2.2.2.2.2.2.2.2.2 h1))
theorem lwc_21 {σc σm : zH} {n : Nat} (hC : lwC l Xc Xm p s m c b L xs c1 c2) (hls : zls (lwad b c1 c2) ls 4 (lwL (nI n))) (hn : n + 5 < L) (hkc : kc ≤ 600000) (hks : ks ≤ 7302250) (hq : qR σc σm) (kk : ∀ (σc' σm' : zH) (H1 : Heap) (locs1 : List Loc), qR σc' σm' → lwS Xc Xm s σc' σm' H1 locs1 → W p l e room_1 s m #[Value.ref b] below meth c H1 locs1 kc ks Q (F0 m 1261 ls [])) (hS : lwS Xc Xm s σc σm H locs) : W p l e room_1 s m #[Value.ref b] below meth c H locs kc ks Q (F0 m 951 ls []) := by
  refine lwcase (k := 2) (z1 := 104) (z2 := 107) (mc := 104) (mm := 206) (w1 := 940) (w2 := 1679) hC hls hn (by omega) (by decide +kernel) (by decide +kernel) ?_ hkc hks kk hS
  have h1 := lwz_I xs n 2
  rw [lwz_2] at h1 ⊢
  exact lwp_of (r_why hq _ _) (fun q r h => c_X10_why hC.2.2.2.2.2.2.2.2.1.2.1 h (lwvv hC.2.2.2.2.2.2.2.2.2.2.2.1.2 h1)) (fun q r h => c_X11_why hC.2.2.2.2.2.2.2.2.2.1.2.1 h (lwvv hC.2.2.2.2.2.2.2.2.2.2.2.2.2 h1))
theorem lwc_22 {σc σm : zH} {n : Nat} (hC : lwC l Xc Xm p s m c b L xs c1 c2) (hls : zls (lwad b c1 c2) ls 4 (lwL (nI n))) (hn : n + 5 < L) (hkc : kc ≤ 600000) (hks : ks ≤ 7302250) (hq : qR σc σm) (kk : ∀ (σc' σm' : zH) (H1 : Heap) (locs1 : List Loc), qR σc' σm' → lwS Xc Xm s σc' σm' H1 locs1 → W p l e room_1 s m #[Value.ref b] below meth c H1 locs1 kc ks Q (F0 m 1261 ls [])) (hS : lwS Xc Xm s σc σm H locs) : W p l e room_1 s m #[Value.ref b] below meth c H locs kc ks Q (F0 m 984 ls []) := by
  refine lwcase (k := 3) (z1 := 108) (z2 := 111) (mc := 118) (mm := 207) (w1 := 1090) (w2 := 1683) hC hls hn (by omega) (by decide +kernel) (by decide +kernel) ?_ hkc hks kk hS
  have h1 := lwz_I xs n 3
  rw [lwz_3] at h1 ⊢
  exact lwp_of (r_fair hq _ _ _) (fun q r h => c_X10_fair hC.2.2.2.2.2.2.2.2.1.2.1 h (lwvv hC.2.2.2.2.2.2.2.2.2.2.2.1.2 h1)) (fun q r h => c_X11_fair hC.2.2.2.2.2.2.2.2.2.1.2.1 h (lwvv hC.2.2.2.2.2.2.2.2.2.2.2.2.2 h1))
theorem lwc_23 {σc σm : zH} {n : Nat} (hC : lwC l Xc Xm p s m c b L xs c1 c2) (hls : zls (lwad b c1 c2) ls 4 (lwL (nI n))) (hn : n + 5 < L) (hkc : kc ≤ 600000) (hks : ks ≤ 7302250) (hq : qR σc σm) (kk : ∀ (σc' σm' : zH) (H1 : Heap) (locs1 : List Loc), qR σc' σm' → lwS Xc Xm s σc' σm' H1 locs1 → W p l e room_1 s m #[Value.ref b] below meth c H1 locs1 kc ks Q (F0 m 1261 ls [])) (hS : lwS Xc Xm s σc σm H locs) : W p l e room_1 s m #[Value.ref b] below meth c H locs kc ks Q (F0 m 1027 ls []) := by
  refine lwcase (k := 1) (z1 := 112) (z2 := 115) (mc := 119) (mm := 208) (w1 := 1099) (w2 := 1687) hC hls hn (by omega) (by decide +kernel) (by decide +kernel) ?_ hkc hks kk hS
  have h1 := lwz_I xs n 1
  rw [lwz_1] at h1 ⊢
  exact lwp_of (r_bestLaw hq _) (fun q r h => c_X10_bestLaw hC.2.2.2.2.2.2.2.2.1.2.1 h (lwvv hC.2.2.2.2.2.2.2.2.2.2.2.1.2 h1)) (fun q r h => c_X11_bestLaw hC.2.2.2.2.2.2.2.2.2.1.2.1 h (lwvv hC.2.2.2.2.2.2.2.2.2.2.2.2.2 h1))
theorem lwc_24 {σc σm : zH} {n : Nat} (hC : lwC l Xc Xm p s m c b L xs c1 c2) (hls : zls (lwad b c1 c2) ls 4 (lwL (nI n))) (hn : n + 5 < L) (hkc : kc ≤ 600000) (hks : ks ≤ 7302250) (hq : qR σc σm) (kk : ∀ (σc' σm' : zH) (H1 : Heap) (locs1 : List Loc), qR σc' σm' → lwS Xc Xm s σc' σm' H1 locs1 → W p l e room_1 s m #[Value.ref b] below meth c H1 locs1 kc ks Q (F0 m 1261 ls [])) (hS : lwS Xc Xm s σc σm H locs) : W p l e room_1 s m #[Value.ref b] below meth c H locs kc ks Q (F0 m 1050 ls []) := by
  refine lwcase (k := 3) (z1 := 116) (z2 := 119) (mc := 120) (mm := 210) (w1 := 1103) (w2 := 1691) hC hls hn (by omega) (by decide +kernel) (by decide +kernel) ?_ hkc hks kk hS
  have h1 := lwz_I xs n 3
  rw [lwz_3] at h1 ⊢
  exact lwp_of (r_swap hq _ _ _) (fun q r h => c_X10_swap hC.2.2.2.2.2.2.2.2.1.2.1 h (lwvv hC.2.2.2.2.2.2.2.2.2.2.2.1.2 h1)) (fun q r h => c_X11_swap hC.2.2.2.2.2.2.2.2.2.1.2.1 h (lwvv hC.2.2.2.2.2.2.2.2.2.2.2.2.2 h1))
theorem lwc_25 {σc σm : zH} {n : Nat} (hC : lwC l Xc Xm p s m c b L xs c1 c2) (hls : zls (lwad b c1 c2) ls 4 (lwL (nI n))) (hn : n + 5 < L) (hkc : kc ≤ 600000) (hks : ks ≤ 7302250) (hq : qR σc σm) (kk : ∀ (σc' σm' : zH) (H1 : Heap) (locs1 : List Loc), qR σc' σm' → lwS Xc Xm s σc' σm' H1 locs1 → W p l e room_1 s m #[Value.ref b] below meth c H1 locs1 kc ks Q (F0 m 1261 ls [])) (hS : lwS Xc Xm s σc σm H locs) : W p l e room_1 s m #[Value.ref b] below meth c H locs kc ks Q (F0 m 1093 ls []) := by
  refine lwcase (k := 3) (z1 := 120) (z2 := 123) (mc := 121) (mm := 211) (w1 := 1115) (w2 := 1699) hC hls hn (by omega) (by decide +kernel) (by decide +kernel) ?_ hkc hks kk hS
  have h1 := lwz_I xs n 3
  rw [lwz_3] at h1 ⊢
  exact lwp_of (r_strike hq _ _ _) (fun q r h => c_X10_strike hC.2.2.2.2.2.2.2.2.1.2.1 h (lwvv hC.2.2.2.2.2.2.2.2.2.2.2.1.2 h1)) (fun q r h => c_X11_strike hC.2.2.2.2.2.2.2.2.2.1.2.1 h (lwvv hC.2.2.2.2.2.2.2.2.2.2.2.2.2 h1))
theorem lwc_26 {σc σm : zH} {n : Nat} (hC : lwC l Xc Xm p s m c b L xs c1 c2) (hls : zls (lwad b c1 c2) ls 4 (lwL (nI n))) (hn : n + 5 < L) (hkc : kc ≤ 600000) (hks : ks ≤ 7302250) (hq : qR σc σm) (kk : ∀ (σc' σm' : zH) (H1 : Heap) (locs1 : List Loc), qR σc' σm' → lwS Xc Xm s σc' σm' H1 locs1 → W p l e room_1 s m #[Value.ref b] below meth c H1 locs1 kc ks Q (F0 m 1261 ls [])) (hS : lwS Xc Xm s σc σm H locs) : W p l e room_1 s m #[Value.ref b] below meth c H locs kc ks Q (F0 m 1136 ls []) := by
  refine lwcase (k := 2) (z1 := 124) (z2 := 127) (mc := 109) (mm := 212) (w1 := 974) (w2 := 1703) hC hls hn (by omega) (by decide +kernel) (by decide +kernel) ?_ hkc hks kk hS
  have h1 := lwz_I xs n 2
  rw [lwz_2] at h1 ⊢
  exact lwp_of (r_just hq _ _) (fun q r h => c_X10_just hC.2.2.2.2.2.2.2.2.1.2.1 h (lwvv hC.2.2.2.2.2.2.2.2.2.2.2.1.2 h1)) (fun q r h => c_X11_just hC.2.2.2.2.2.2.2.2.2.1.2.1 h (lwvv hC.2.2.2.2.2.2.2.2.2.2.2.2.2 h1))
theorem lwc_27 {σc σm : zH} {n : Nat} (hC : lwC l Xc Xm p s m c b L xs c1 c2) (hls : zls (lwad b c1 c2) ls 4 (lwL (nI n))) (hn : n + 5 < L) (hkc : kc ≤ 600000) (hks : ks ≤ 7302250) (hq : qR σc σm) (kk : ∀ (σc' σm' : zH) (H1 : Heap) (locs1 : List Loc), qR σc' σm' → lwS Xc Xm s σc' σm' H1 locs1 → W p l e room_1 s m #[Value.ref b] below meth c H1 locs1 kc ks Q (F0 m 1261 ls [])) (hS : lwS Xc Xm s σc σm H locs) : W p l e room_1 s m #[Value.ref b] below meth c H locs kc ks Q (F0 m 1169 ls []) := by
  refine lwcase (k := 1) (z1 := 128) (z2 := 131) (mc := 100) (mm := 213) (w1 := 913) (w2 := 1707) hC hls hn (by omega) (by decide +kernel) (by decide +kernel) ?_ hkc hks kk hS
  have h1 := lwz_I xs n 1
  rw [lwz_1] at h1 ⊢
  exact lwp_of (r_seed hq _) (fun q r h => c_X10_seed hC.2.2.2.2.2.2.2.2.1.2.1 h (lwvv hC.2.2.2.2.2.2.2.2.2.2.2.1.2 h1)) (fun q r h => c_X11_seed hC.2.2.2.2.2.2.2.2.2.1.2.1 h (lwvv hC.2.2.2.2.2.2.2.2.2.2.2.2.2 h1))
theorem lwc_28 {σc σm : zH} {n : Nat} (hC : lwC l Xc Xm p s m c b L xs c1 c2) (hls : zls (lwad b c1 c2) ls 4 (lwL (nI n))) (hn : n + 5 < L) (hkc : kc ≤ 600000) (hks : ks ≤ 7302250) (hq : qR σc σm) (kk : ∀ (σc' σm' : zH) (H1 : Heap) (locs1 : List Loc), qR σc' σm' → lwS Xc Xm s σc' σm' H1 locs1 → W p l e room_1 s m #[Value.ref b] below meth c H1 locs1 kc ks Q (F0 m 1261 ls [])) (hS : lwS Xc Xm s σc σm H locs) : W p l e room_1 s m #[Value.ref b] below meth c H locs kc ks Q (F0 m 1192 ls []) := by
  refine lwcase (k := 1) (z1 := 132) (z2 := 135) (mc := 105) (mm := 214) (w1 := 944) (w2 := 1711) hC hls hn (by omega) (by decide +kernel) (by decide +kernel) ?_ hkc hks kk hS
  have h1 := lwz_I xs n 1
  rw [lwz_1] at h1 ⊢
  exact lwp_of (r_count hq _) (fun q r h => c_X10_count hC.2.2.2.2.2.2.2.2.1.2.1 h (lwvv hC.2.2.2.2.2.2.2.2.2.2.2.1.2 h1)) (fun q r h => c_X11_count hC.2.2.2.2.2.2.2.2.2.1.2.1 h (lwvv hC.2.2.2.2.2.2.2.2.2.2.2.2.2 h1))
theorem lwc_29 {σc σm : zH} {n : Nat} (hC : lwC l Xc Xm p s m c b L xs c1 c2) (hls : zls (lwad b c1 c2) ls 4 (lwL (nI n))) (hn : n + 5 < L) (hkc : kc ≤ 600000) (hks : ks ≤ 7302250) (hq : qR σc σm) (kk : ∀ (σc' σm' : zH) (H1 : Heap) (locs1 : List Loc), qR σc' σm' → lwS Xc Xm s σc' σm' H1 locs1 → W p l e room_1 s m #[Value.ref b] below meth c H1 locs1 kc ks Q (F0 m 1261 ls [])) (hS : lwS Xc Xm s σc σm H locs) : W p l e room_1 s m #[Value.ref b] below meth c H locs kc ks Q (F0 m 1215 ls []) := by
  refine lwcase (k := 1) (z1 := 136) (z2 := 139) (mc := 101) (mm := 217) (w1 := 917) (w2 := 1715) hC hls hn (by omega) (by decide +kernel) (by decide +kernel) ?_ hkc hks kk hS
  have h1 := lwz_I xs n 1
  rw [lwz_1] at h1 ⊢
  exact lwp_of (r_image hq _) (fun q r h => c_X10_image hC.2.2.2.2.2.2.2.2.1.2.1 h (lwvv hC.2.2.2.2.2.2.2.2.2.2.2.1.2 h1)) (fun q r h => c_X11_image hC.2.2.2.2.2.2.2.2.2.1.2.1 h (lwvv hC.2.2.2.2.2.2.2.2.2.2.2.2.2 h1))
theorem lwc_30 {σc σm : zH} {n : Nat} (hC : lwC l Xc Xm p s m c b L xs c1 c2) (hls : zls (lwad b c1 c2) ls 4 (lwL (nI n))) (hn : n + 5 < L) (hkc : kc ≤ 600000) (hks : ks ≤ 7302250) (hq : qR σc σm) (kk : ∀ (σc' σm' : zH) (H1 : Heap) (locs1 : List Loc), qR σc' σm' → lwS Xc Xm s σc' σm' H1 locs1 → W p l e room_1 s m #[Value.ref b] below meth c H1 locs1 kc ks Q (F0 m 1261 ls [])) (hS : lwS Xc Xm s σc σm H locs) : W p l e room_1 s m #[Value.ref b] below meth c H locs kc ks Q (F0 m 1238 ls []) := by
  refine lwcase (k := 1) (z1 := 140) (z2 := 143) (mc := 102) (mm := 218) (w1 := 931) (w2 := 1728) hC hls hn (by omega) (by decide +kernel) (by decide +kernel) ?_ hkc hks kk hS
  have h1 := lwz_I xs n 1
  rw [lwz_1] at h1 ⊢
  exact lwp_of (r_back hq _) (fun q r h => c_X10_back hC.2.2.2.2.2.2.2.2.1.2.1 h (lwvv hC.2.2.2.2.2.2.2.2.2.2.2.1.2 h1)) (fun q r h => c_X11_back hC.2.2.2.2.2.2.2.2.2.1.2.1 h (lwvv hC.2.2.2.2.2.2.2.2.2.2.2.2.2 h1))
end
