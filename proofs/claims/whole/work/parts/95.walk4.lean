/-! the case of lying down: a truth value goes over -/
def lwb (y : Int32) : Int32 := if y = 0 then 0 else 1
theorem lwb_01 (y : Int32) : lwb y = 0 ∨ lwb y = 1 := by
  unfold lwb
  split
  · exact Or.inl rfl
  · exact Or.inr rfl
section
variable {p : Program} {e : Env} {s : State} {m : MethodId} {below : List Frame} {meth : Method} {c : Code} {b : Nat} {H : Heap} {locs : List Loc} {kc ks : Nat} {Q : State → Prop} {ls : Array Slot} {l : Launch} {Xc Xm : zX} {L c1 c2 : Nat} {xs : Nat → Int32}
theorem lwbool {pc : Nat} {y : Int32} {rest : List Value} (hx : p.tables.exec = Jvm.exec) (hcd : c.code = code) (d1 : decode code pc = .ok (.ifCond .eq 7, 3)) (d2 : decode code (pc + 3) = .ok (.iconst 1, 1)) (d3 : decode code (pc + 4) = .ok (.goto 4, 3)) (d4 : decode code (pc + 7) = .ok (.iconst 0, 1))
    (kk : W p l e room_1 s m #[Value.ref b] below meth c H locs kc ks Q (F0 m (pc + 8) ls (.int (lwb y) :: rest))) : W p l e room_1 s m #[Value.ref b] below meth c H locs kc ks Q (F0 m pc ls (.int y :: rest)) := by
  refine lv_if_eq hx hcd d1 (tgt := pc + 7) (by omega) (fun h => ?_) (fun h => ?_)
  · have e1 : lwb y = 0 := if_pos h
    rw [e1] at kk
    exact lv_iconst (v := 0) hx hcd d4 (by decide) kk
  · have e1 : lwb y = 1 := if_neg h
    rw [e1] at kk
    refine lv_iconst (v := 1) hx hcd d2 (by decide) ?_
    exact lv_goto hx hcd d3 (tgt := pc + 8) (by omega) kk
theorem lwc_6 {σc σm : zH} {n : Nat} (hC : lwC l Xc Xm p s m c b L xs c1 c2) (hls : zls (lwad b c1 c2) ls 4 (lwL (nI n))) (hn : n + 5 < L) (hkc : kc ≤ 600000) (hks : ks ≤ 7302250) (hq : qR σc σm) (kk : ∀ (σc' σm' : zH) (H1 : Heap) (locs1 : List Loc), qR σc' σm' → lwS Xc Xm s σc' σm' H1 locs1 → W p l e room_1 s m #[Value.ref b] below meth c H1 locs1 kc ks Q (F0 m 1261 ls [])) (hS : lwS Xc Xm s σc σm H locs) : W p l e room_1 s m #[Value.ref b] below meth c H locs kc ks Q (F0 m 350 ls []) := by
  have hp : lwp Xc Xm 96 183 σc σm [vI (xs (n + 1)), vI (lwb (xs (n + 2)))] := by
    have h1 : ∀ a ∈ [vI (xs (n + 1)), vI (lwb (xs (n + 2)))], ∃ x, a = vI x := fun a ha => by
      rcases List.mem_cons.mp ha with rfl | ha
      · exact ⟨_, rfl⟩
      · rw [List.mem_singleton.mp ha]; exact ⟨_, rfl⟩
    exact lwp_of (r_lie hq _ _ (lwb_01 _)) (fun q r h => c_X10_lie hC.2.2.2.2.2.2.2.2.1.2.1 h (lwvv hC.2.2.2.2.2.2.2.2.2.2.2.1.2 h1)) (fun q r h => c_X11_lie hC.2.2.2.2.2.2.2.2.2.1.2.1 h (lwvv hC.2.2.2.2.2.2.2.2.2.2.2.2.2 h1))
  have hm : lwcm 96 183 41 45 2 885 1582 = true := by decide +kernel
  unfold lwcm at hm
  simp only [Bool.and_eq_true] at hm
  obtain ⟨⟨⟨⟨⟨⟨⟨⟨⟨⟨⟨⟨⟨a1, a2⟩, a3⟩, a4⟩, a5⟩, a6⟩, a7⟩, a8⟩, a9⟩, a10⟩, a11⟩, a12⟩, a13⟩, a14⟩ := hm
  have a5 := Nat.eq_of_beq_eq_true a5
  have a6 := Nat.eq_of_beq_eq_true a6
  have a9 := Nat.eq_of_beq_eq_true a9
  have a10 := Nat.eq_of_beq_eq_true a10
  have a11 := Nat.eq_of_beq_eq_true a11
  have a12 := Nat.eq_of_beq_eq_true a12
  obtain ⟨σc', σm', v, M1, M2, hq⟩ := hp
  obtain ⟨hx, hcd, hml, hown, hts, hXs, hb, hL, hXc, hXm, hdis, ⟨hc1, hdc⟩, ⟨hc2, hdm⟩⟩ := id hC
  refine lv_aload_n hx hcd (show decode code 350 = .ok (.aload_n 1, 1) by decide +kernel) rfl (zls_ld (v := vR 0 1) hls rfl (vR_ne 0 1)) ?_
  refine lwargs (pc := 351) hC hS.2.2 hls hn 2 (by omega) (by decide +kernel) ?_
  show W p l e room_1 s m #[Value.ref b] below meth c H locs kc ks Q (F0 m 361 ls (.int (xs (n + 2)) :: .int (xs (n + 1)) :: .ref c1 :: []))
  refine lwbool hx hcd (by decide +kernel) (by decide +kernel) (by decide +kernel) (by decide +kernel) ?_
  have hcall1 := lwcall (p := p) (e := e) (below := below) (meth := meth) (H := H) (locs := locs) (kc := kc) (ks := ks) (Q := Q) (ls := ls) (n := 96) (z := 41) (pc := 369) (t := [vI (xs (n + 1)), vI (lwb (xs (n + 2)))]) (v := v) (rest := []) hx hcd hml hown hts hXc hdis ⟨a1, nw_blt a3⟩ a5 (Nat.le_of_ble_eq_true a7) (by rw [a9]; exact M1) (by rw [a9]; exact hdc) (by rw [a11]; rfl) (zwd_in a13) (by decide +kernel) hls.1 (by decide) hS.1 hS.2.1 hS.2.2
  rw [a9, hc1] at hcall1
  refine hcall1 (fun H1 locs1 hP1 hP2 hS1 => ?_) hkc hks
  refine lv_aload_n hx hcd (show decode code 372 = .ok (.aload_n 2, 1) by decide +kernel) rfl (zls_ld (v := vR 0 2) hls rfl (vR_ne 0 2)) ?_
  refine lwargs (pc := 373) hC hS1 hls hn 2 (by omega) (by decide +kernel) ?_
  show W p l e room_1 s m #[Value.ref b] below meth c H1 locs1 kc ks Q (F0 m 383 ls (.int (xs (n + 2)) :: .int (xs (n + 1)) :: .ref c2 :: [.int v]))
  refine lwbool hx hcd (by decide +kernel) (by decide +kernel) (by decide +kernel) (by decide +kernel) ?_
  have hcall2 := lwcall (p := p) (e := e) (below := below) (meth := meth) (H := H1) (locs := locs1) (kc := kc) (ks := ks) (Q := Q) (ls := ls) (n := 183) (z := 45) (pc := 391) (t := [vI (xs (n + 1)), vI (lwb (xs (n + 2)))]) (v := v) (rest := [.int v]) hx hcd hml hown hts hXm (fun a h1 h2 => hdis a h2 h1) ⟨a2, nw_blt a4⟩ a6 (Nat.le_of_ble_eq_true a8) (by rw [a10]; exact M2) (by rw [a10]; exact hdm) (by rw [a12]; rfl) (zwd_in a14) (by decide +kernel) hls.1 (by show (1 : Nat) ≤ 8; decide) hP2 hP1 hS1
  rw [a10, hc2] at hcall2
  refine hcall2 (fun H2 locs2 hP3 hP4 hS2 => ?_) hkc hks
  exact lv_icmp_eq hx hcd (show decode code 394 = .ok (.if_icmp .eq 867, 3) by decide +kernel) (tgt := 1261) (by omega) (fun _ => kk σc' σm' H2 locs2 hq ⟨hP4, hP3, hS2⟩) (fun h => absurd rfl h)
end
