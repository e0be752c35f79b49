/-- the rows of the arguments -/
def lwdk (pc k : Nat) : Bool := (List.range k).all fun j => decide (decode code (pc + 5 * j) = .ok (.aload_n 0, 1)) && decide (decode code (pc + 5 * j + 1) = .ok (.iload_n 3, 1)) && decide (decode code (pc + 5 * j + 2) = .ok (.iconst ((j + 1 : Nat) : Int), 1)) && decide (decode code (pc + 5 * j + 3) = .ok (.iadd, 1)) && decide (decode code (pc + 5 * j + 4) = .ok (.iaload, 1))
def lwz (xs : Nat → Int32) (n k : Nat) : List zAV := (List.range k).map fun j => vI (xs (n + (j + 1)))
def lwv (xs : Nat → Int32) (n k : Nat) : List Value := (List.range k).map fun j => Value.int (xs (n + (j + 1)))
theorem lwz_cV (ad : Nat → Nat → Nat) (xs : Nat → Int32) (n k : Nat) : (lwz xs n k).map (cV ad) = lwv xs n k := by
  rw [lwz, lwv, List.map_map]
  rfl
theorem lwz_len (xs : Nat → Int32) (n k : Nat) : (lwz xs n k).length = k := by simp [lwz]
def lwC (l : Launch) (Xc Xm : zX) (p : Program) (s : State) (m : MethodId) (c : Code) (b L : Nat) (xs : Nat → Int32) (c1 c2 : Nat) : Prop :=
  p.tables.exec = Jvm.exec ∧ c.code = code ∧ c.maxLocals = 4 ∧ s.vm.findClass R_law = some m.cls ∧ (∀ w ∈ lw_good, w.before #[Value.ref b] s = true) ∧ va_X b L xs s s.heap ∧ b < s.heap.size ∧ L ≤ 3072 ∧ lwX l Xc s ∧ lwX l Xm s ∧ (∀ a, zA Xc a → ¬ zA Xm a) ∧ (zad Xc 10 0 = c1 ∧ (10, 0) ∈ zdm Xc) ∧ (zad Xm 11 0 = c2 ∧ (11, 0) ∈ zdm Xm)
def lwS (Xc Xm : zX) (s : State) (σc σm : zH) (H : Heap) (locs : List Loc) : Prop := va_P (zD Xc) zcls (zw Xc σc) H ∧ va_P (zD Xm) zcls (zw Xm σm) H ∧ va_S (nFr s.heap.size) s.heap H locs
def lwp (Xc Xm : zX) (mc mm : Nat) (σc σm : zH) (t : List zAV) : Prop := ∃ σc' σm' v, zMet Xc mc σc (vR 10 0 :: t) σc' (vI v) ∧ zMet Xm mm σm (vR 11 0 :: t) σm' (vI v) ∧ qR σc' σm'
theorem lwp_of {Xc Xm : zX} {mc mm : Nat} {σc σm : zH} {t : List zAV} {dc dm : Option (zH × Int32)} (h : zrel dc dm qR) (hc : ∀ (q : zH → zAV → Option (zH × zAV)) (r : zH × zAV), (dc.bind fun p => q p.1 (vI p.2)) = some r → zcon Xc mc σc (vR 10 0 :: t) q r) (hm : ∀ (q : zH → zAV → Option (zH × zAV)) (r : zH × zAV), (dm.bind fun p => q p.1 (vI p.2)) = some r → zcon Xm mm σm (vR 11 0 :: t) q r) : lwp Xc Xm mc mm σc σm t := by
  obtain ⟨a, b, v, e1, e2, hq⟩ := h
  obtain ⟨σ1, v1, M1, -, -, -, k1⟩ := hc (fun σ v => some (σ, v)) (a, vI v) (by rw [e1]; rfl)
  obtain ⟨σ2, v2, M2, -, -, -, k2⟩ := hm (fun σ v => some (σ, v)) (b, vI v) (by rw [e2]; rfl)
  cases k1
  cases k2
  exact ⟨_, _, v, M1, M2, hq⟩
theorem lwvv {X : zX} {k : Nat} {t : List zAV} (h : (k, 0) ∈ zdm X) (ht : ∀ a ∈ t, ∃ x, a = vI x) : ∀ a ∈ vR k 0 :: t, zval X a := fun a ha => by
  rcases List.mem_cons.mp ha with rfl | ha
  · exact Or.inl h
  · obtain ⟨x, rfl⟩ := ht a ha
    trivial
theorem lwz_I (xs : Nat → Int32) (n k : Nat) : ∀ a ∈ lwz xs n k, ∃ x, a = vI x := fun a ha => by
  obtain ⟨j, -, rfl⟩ := List.mem_map.mp ha
  exact ⟨_, rfl⟩
/-- the rows of a case: where, how many, the two links, the way on -/
def lwck (pc k z1 z2 : Nat) : Bool := decide (decode code pc = .ok (.aload_n 1, 1)) && lwdk (pc + 1) k && decide (decode code (pc + 1 + 5 * k) = .ok (.invokevirtual z1, 3)) && decide (decode code (pc + 1 + 5 * k + 3) = .ok (.aload_n 2, 1)) && lwdk (pc + 1 + 5 * k + 3 + 1) k && decide (decode code (pc + 1 + 5 * k + 3 + 1 + 5 * k) = .ok (.invokevirtual z2, 3)) && decide (decode code (pc + 1 + 5 * k + 3 + 1 + 5 * k + 3) = .ok (.if_icmp .eq ((1261 : Int) - ((pc + 1 + 5 * k + 3 + 1 + 5 * k + 3 : Nat) : Int)), 3))
def lwcm (mc mm z1 z2 k w1 w2 : Nat) : Bool := zmokA mc && zmokA mm && Nat.blt mc zNM && Nat.blt mm zNM && Nat.beq (mSt mc) 0 && Nat.beq (mSt mm) 0 && Nat.ble (mD mc) 15 && Nat.ble (mD mm) 15 && Nat.beq (zkd mc) 10 && Nat.beq (zkd mm) 11 && Nat.beq (mP mc) k && Nat.beq (mP mm) k && zwd w1 (.methodLink R_law z1 (mY mc)) && zwd w2 (.methodLink R_law z2 (mY mm))
section
variable {p : Program} {e : Env} {s : State} {m : MethodId} {below : List Frame} {meth : Method} {c : Code} {b : Nat} {H : Heap} {locs : List Loc} {kc ks : Nat} {Q : State → Prop} {ls : Array Slot} {l : Launch} {Xc Xm : zX} {L c1 c2 : Nat} {xs : Nat → Int32}
theorem lwargs {n pc : Nat} {rest : List Value} (hC : lwC l Xc Xm p s m c b L xs c1 c2) (hS : va_S (nFr s.heap.size) s.heap H locs) (hls : zls (lwad b c1 c2) ls 4 (lwL (nI n))) (hn : n + 5 < L) : ∀ (k : Nat), k ≤ 5 → lwdk pc k = true →
    W p l e room_1 s m #[Value.ref b] below meth c H locs kc ks Q (F0 m (pc + 5 * k) ls ((lwv xs n k).reverse ++ rest)) → W p l e room_1 s m #[Value.ref b] below meth c H locs kc ks Q (F0 m pc ls rest)
  | 0, _, _, kk => kk
  | k + 1, hk, hd, kk => by
    unfold lwdk at hd
    rw [List.range_succ, List.all_append, Bool.and_eq_true] at hd
    refine lwargs hC hS hls hn k (by omega) hd.1 ?_
    have h2 := hd.2
    simp only [List.all_cons, List.all_nil, Bool.and_true, Bool.and_eq_true, decide_eq_true_eq] at h2
    obtain ⟨⟨⟨⟨d1, d2⟩, d3⟩, d4⟩, d5⟩ := h2
    refine lwarg (j := k + 1) hC.1 hC.2.1 hC.2.2.2.2.2.1 hC.2.2.2.2.2.2.1 hS hls (by omega) hC.2.2.2.2.2.2.2.1 (by omega) d1 d2 d3 d4 d5 ?_
    have e1 : (lwv xs n (k + 1)).reverse ++ rest = Value.int (xs (n + (k + 1))) :: ((lwv xs n k).reverse ++ rest) := by
      rw [lwv, List.range_succ, List.map_append, List.reverse_append]
      rfl
    rw [e1] at kk
    exact kk
/-- the two calls, once their arguments stand there -/
theorem lwcase {σc σm : zH} {n pc k z1 z2 mc mm w1 w2 : Nat} (hC : lwC l Xc Xm p s m c b L xs c1 c2) (hls : zls (lwad b c1 c2) ls 4 (lwL (nI n))) (hn : n + 5 < L) (hk : k ≤ 5) (hd : lwck pc k z1 z2 = true) (hm : lwcm mc mm z1 z2 k w1 w2 = true) (hp : lwp Xc Xm mc mm σc σm (lwz xs n k)) (hkc : kc ≤ 600000) (hks : ks ≤ 7302250)
    (kk : ∀ (σc' σm' : zH) (H1 : Heap) (locs1 : List Loc), qR σc' σm' → lwS Xc Xm s σc' σm' H1 locs1 → W p l e room_1 s m #[Value.ref b] below meth c H1 locs1 kc ks Q (F0 m 1261 ls [])) (hS : lwS Xc Xm s σc σm H locs) : W p l e room_1 s m #[Value.ref b] below meth c H locs kc ks Q (F0 m pc ls []) := by
  unfold lwck at hd
  simp only [Bool.and_eq_true, decide_eq_true_eq] at hd
  obtain ⟨⟨⟨⟨⟨⟨d1, d2⟩, d3⟩, d4⟩, d5⟩, d6⟩, d7⟩ := hd
  unfold lwcm at hm
  simp only [Bool.and_eq_true] at hm
  obtain ⟨⟨⟨⟨⟨⟨⟨⟨⟨⟨⟨⟨⟨a1, a2⟩, a3⟩, a4⟩, a5⟩, a6⟩, a7⟩, a8⟩, a9⟩, a10⟩, a11⟩, a12⟩, a13⟩, a14⟩ := hm
  have a5 := Nat.eq_of_beq_eq_true a5
  have a6 := Nat.eq_of_beq_eq_true a6
  have a9 := Nat.eq_of_beq_eq_true a9
  have a10 := Nat.eq_of_beq_eq_true a10
  have a11 := Nat.eq_of_beq_eq_true a11
  have a12 := Nat.eq_of_beq_eq_true a12
  obtain ⟨σc', σm', v, M1, M2, hq⟩ := hp
  obtain ⟨hx, hcd, hml, hown, hts, hXs, hb, hL, hXc, hXm, hdis, ⟨hc1, hdc⟩, ⟨hc2, hdm⟩⟩ := id hC
  refine lv_aload_n hx hcd d1 rfl (zls_ld (v := vR 0 1) hls rfl (vR_ne 0 1)) ?_
  refine lwargs hC hS.2.2 hls hn k hk d2 ?_
  have hcall1 := lwcall (p := p) (e := e) (below := below) (meth := meth) (H := H) (locs := locs) (kc := kc) (ks := ks) (Q := Q) (ls := ls) (n := mc) (z := z1) (pc := pc + 1 + 5 * k) (t := lwz xs n k) (v := v) (rest := []) hx hcd hml hown hts hXc hdis ⟨a1, nw_blt a3⟩ a5 (Nat.le_of_ble_eq_true a7) (by rw [a9]; exact M1) (by rw [a9]; exact hdc) (by rw [lwz_len, a11]) (zwd_in a13) d3 hls.1 (by decide) hS.1 hS.2.1 hS.2.2
  rw [a9, hc1, lwz_cV] at hcall1
  refine hcall1 (fun H1 locs1 hP1 hP2 hS1 => ?_) hkc hks
  refine lv_aload_n hx hcd d4 rfl (zls_ld (v := vR 0 2) hls rfl (vR_ne 0 2)) ?_
  refine lwargs hC hS1 hls hn k hk d5 ?_
  have hcall2 := lwcall (p := p) (e := e) (below := below) (meth := meth) (H := H1) (locs := locs1) (kc := kc) (ks := ks) (Q := Q) (ls := ls) (n := mm) (z := z2) (pc := pc + 1 + 5 * k + 3 + 1 + 5 * k) (t := lwz xs n k) (v := v) (rest := [.int v]) hx hcd hml hown hts hXm (fun a h1 h2 => hdis a h2 h1) ⟨a2, nw_blt a4⟩ a6 (Nat.le_of_ble_eq_true a8) (by rw [a10]; exact M2) (by rw [a10]; exact hdm) (by rw [lwz_len, a12]) (zwd_in a14) d6 hls.1 (by show (1 : Nat) ≤ 8; decide) hP2 hP1 hS1
  rw [a10, hc2, lwz_cV] at hcall2
  refine hcall2 (fun H2 locs2 hP3 hP4 hS2 => ?_) hkc hks
  exact lv_icmp_eq hx hcd d7 (tgt := 1261) (by omega) (fun _ => kk σc' σm' H2 locs2 hq ⟨hP4, hP3, hS2⟩) (fun h => absurd rfl h)
end
