theorem lwone (X : zX) (k q : Nat) : nw_W X (fun _ => q) [.inl (k, nda k)] = [(q, .inr (k, (nda k).map (cV (nw_ad fun _ => 0))))] := by
  have h : nw_W X (fun _ => q) [.inl (k, nda k)] = [(q, nw_e X (fun _ => q) (.inl (k, nda k)))] := rfl
  rw [h, nw_e_al (X := X) (al := fun _ => 0) (al' := fun _ => q) (n := 0) (fun i hi => by omega) (nda_k 0 k)]
  rfl
theorem lwzls {b c1 c2 : Nat} {ls : Array Slot} {i : Int32} (h : lv_has ls 4 [(3, .int i), (2, .ref c2), (1, .ref c1), (0, .ref b)]) : zls (lwad b c1 c2) ls 4 (lwL i) := by
  refine ⟨h.1, h.2.1, rfl, fun j v hv hu => ?_⟩
  match j, hv with
  | 0, hv => cases hv; exact h.2.2 (0, .ref b) (by simp)
  | 1, hv => cases hv; exact h.2.2 (1, .ref c1) (by simp)
  | 2, hv => cases hv; exact h.2.2 (2, .ref c2) (by simp)
  | 3, hv => cases hv; exact h.2.2 (3, .int i) (by simp)
  | n + 4, hv => cases hv
theorem whole_start {p : Program} {e : Env} {s : State} {m : MethodId} {below : List Frame} {meth : Method} {c : Code} (l : Launch) (hflags : l.flags = flags0) {b L : Nat} {xs : Nat → Int32} (hL : L ≤ 3072) (C0 : lw_At p s m meth c b L xs) : W p l e room_1 s m #[Value.ref b] below meth c s.heap [] 0 0 (lw_Z below #[Value.ref b] s) (entryFrame m ([Value.ref b] : List Value).toArray 4) := by
  obtain ⟨hx, hcd, hr, hml, hown, hts, hX, hbl, hlk, hgv⟩ := id C0
  have htg : ∀ w ∈ lw_good, w.before #[Value.ref b] s = true := fun w hw => hts w (lwgood_tbl w hw)
  have hAn : ∀ a : Nat, a < s.heap.size → ¬ nFr s.heap.size a := fun a ha h => Nat.not_lt.mpr h ha
  obtain ⟨sad, sav, hstr⟩ := lwstr (A := nFr s.heap.size) hts hgv hAn
  obtain ⟨D, cA, hK⟩ := lwK hts
  have hNs := lwNs hts
  obtain ⟨X0, hX0⟩ : ∃ X0 : zX, X0 = (l, D, (fun _ _ => 0), cA, [], sav) := ⟨_, rfl⟩
  have hl0 : zl X0 = l := by rw [hX0]; rfl
  have hD0 : zD X0 = D := by rw [hX0]; rfl
  have hv0 : zav X0 = sav := by rw [hX0]; rfl
  have hK0 : va_K (zD X0) zcls (ztys X0) s := by rw [hX0]; exact hK
  clear hX0
  have hl := lv_entry ([.ref b]) (n := 4) (Nat.le_of_ble_eq_true rfl)
  rw [lg_entry_eq]
  generalize (lg_sl ([.ref b]) ++ List.replicate (4 - (lg_sl ([.ref b])).length) Slot.unset).toArray = ls at hl ⊢
  have hl : lv_has ls 4 [(0, .ref b)] := hl
  have hS0 : va_S (nFr s.heap.size) s.heap s.heap [] := va_S.rf
  have hP0 : va_P (zD X0) zcls [] s.heap := fun k q h => (by cases h)
  have hDe : ∀ A : Nat → Prop, va_D A [] := fun A => ⟨fun i j p q h => (by cases h), fun k q h => (by cases h)⟩
  have z10 := zcok_at (k := 10) (by omega)
  have z11 := zcok_at (k := 11) (by omega)
  refine va_new (c0 := c) (own := R_law) (C := (zcl 10).1) (T := (zcl 10).2.1) (N := (zcl 10).2.2) (ci := 10) (fs := (nda 10).map (cV (nw_ad fun _ => 0))) (D := zD X0) (cl := zcls) (tys := ztys X0) (A := nFr s.heap.size) (ws := []) (H0 := s.heap) hx hcd htg z10.1 (zcty 10) z10.2.1 hown (hts (.classLink R_law 7 (zcl 10).1) (by decide +kernel)) (hts (.instantiable (zcl 10).1 (zcl 10).2.2) (by decide +kernel)) (hts (.initialized (zcl 10).1) (by decide +kernel)) hK0 hP0 (hDe _) hS0 (fun q hq => hq) (zcls_at 10 (by omega)) (fun j hj => nda_at (by omega) _ hj) (by decide) (by decide) (show decode code 0 = .ok (.new 7, 3) by decide +kernel) (fun q0 H1 hP1 hD1 hS1 => ?_)
  have hP1 : va_P (zD X0) zcls (nw_W X0 (fun _ => q0) [.inl (10, nda 10)]) H1 := by rw [lwone]; exact hP1
  have hD1 : va_D (nFr s.heap.size) (nw_W X0 (fun _ => q0) [.inl (10, nda 10)]) := by rw [lwone]; exact hD1
  refine lv_dup hx hcd (show decode code 3 = .ok (.dup, 1) by decide +kernel) rfl ?_
  obtain ⟨hb1, hb2, hb3, hb4, -, -⟩ := ncl_at (y := 10) (by omega)
  have hM1 : Met l (nY 10) (nws 10) (nrm 10 nkcC nksC) (va_Pc [Value.ref q0] (nPU X0 s.heap.size (fun _ => q0) [.inl (10, nda 10)])) (nQ X0 s.heap.size (fun _ => q0) 1 ncsC) nkcC nksC (nFr s.heap.size) := by
    have h := lwmetC X0 s.heap.size (fun _ => q0)
    unfold nMet at h
    rw [hl0] at h
    exact h
  refine va_callv (va_runI (own := R_law) (index := 9) (As := []) (rest := [.ref q0]) (b := q0) ⟨hx, hcd, hml, hown, htg⟩ hM1 (cwI 0 htg (nws_good (by omega)) rfl rfl rfl (hts (.initialized (nY 10).cls) (by decide +kernel)) (hts (.methodLink R_law 9 (nY 10)) (by decide +kernel)) (hts (.instanceMethod (nY 10)) (by decide +kernel)) hb4 ⟨hb1.1, hb1.2.1, hb1.2.2⟩ ⟨by decide, by decide⟩)
    ⟨nPU_blind X0 _ _ _ _, fun U hU hW => ⟨rfl, va_K.moved hW.alike hK0, by rw [hU]; exact hP1, hD1, nNs_warm hW hNs, by rw [hU]; exact hS1.1⟩⟩ rfl rfl hl.1 rfl (lv_room (by show (1 : Nat) ≤ 8; decide)) (show decode code 4 = .ok (.invokespecial 9, 3) by decide +kernel) ⟨by decide, by decide⟩) hS1 (fun q _ h => h) (fun q h => h) (fun alC t2 H2 locs2 e2 _ hpC hBC _ _ hS2 => ?_)
  obtain ⟨hP2, hD2⟩ := hBC
  rw [e2] at hP2
  refine lv_astore_n (lv' := [(1, .ref q0), (0, .ref b)]) hx hcd (show decode code 7 = .ok (.astore_n 1, 1) by decide +kernel) rfl hl (by decide) rfl (fun ls hl => ?_)
  refine va_forget hS2.2.2 ?_
  have hS2n : va_S (nFr H2.size) H2 H2 [] := va_S.rf
  have hP2e : va_P (zD X0) zcls [] H2 := fun k q h => by cases h
  refine va_new (c0 := c) (own := R_law) (C := (zcl 11).1) (T := (zcl 11).2.1) (N := (zcl 11).2.2) (ci := 11) (fs := (nda 11).map (cV (nw_ad fun _ => 0))) (D := zD X0) (cl := zcls) (tys := ztys X0) (A := nFr H2.size) (ws := []) (H0 := H2) hx hcd htg z11.1 (zcty 11) z11.2.1 hown (hts (.classLink R_law 10 (zcl 11).1) (by decide +kernel)) (hts (.instantiable (zcl 11).1 (zcl 11).2.2) (by decide +kernel)) (hts (.initialized (zcl 11).1) (by decide +kernel)) hK0 hP2e (hDe _) hS2n (fun q hq => hq) (zcls_at 11 (by omega)) (fun j hj => nda_at (by omega) _ hj) (by decide) (by decide) (show decode code 8 = .ok (.new 10, 3) by decide +kernel) (fun q1 H3 hP3 hD3 hS3 => ?_)
  have hP3 : va_P (zD X0) zcls (nw_W X0 (fun _ => q1) [.inl (11, nda 11)]) H3 := by rw [lwone]; exact hP3
  have hD3 : va_D (nFr H2.size) (nw_W X0 (fun _ => q1) [.inl (11, nda 11)]) := by rw [lwone]; exact hD3
  have hPC3 : va_P (zD X0) zcls (nw_W X0 alC ncsC) H3 := hP2.kept (fun k q hk => hS3.2.1 q.1 ((hP2 k q hk).lt) (Nat.not_le.mpr ((hP2 k q hk).lt)))
  have hS3b : va_S (nFr s.heap.size) s.heap H3 [] := ⟨Nat.le_trans hS2.1 hS3.1, fun q h1 h2 => (hS3.2.1 q (Nat.lt_of_lt_of_le h1 hS2.1) (Nat.not_le.mpr (Nat.lt_of_lt_of_le h1 hS2.1))).trans (hS2.2.1 q h1 h2), fun q hq => by cases hq⟩
  refine lv_dup hx hcd (show decode code 11 = .ok (.dup, 1) by decide +kernel) rfl ?_
  obtain ⟨hm1, hm2, hm3, hm4, -, -⟩ := ncl_at (y := 11) (by omega)
  have hM2 : Met l (nY 11) (nws 11) (nrm 11 nkcM nksM) (va_Pc [Value.ref q1] (nPU X0 H2.size (fun _ => q1) [.inl (11, nda 11)])) (nQ X0 H2.size (fun _ => q1) 1 ncsM) nkcM nksM (nFr H2.size) := by
    have h := lwmetM X0 H2.size (fun _ => q1)
    unfold nMet at h
    rw [hl0] at h
    exact h
  have hsub : ∀ q, nFr H2.size q → nFr s.heap.size q := fun q h => Nat.le_trans hS2.1 h
  refine va_callv (va_runI (own := R_law) (index := 12) (As := []) (rest := [.ref q1]) (b := q1) ⟨hx, hcd, hml, hown, htg⟩ hM2 (cwI 0 htg (nws_good (by omega)) rfl rfl rfl (hts (.initialized (nY 11).cls) (by decide +kernel)) (hts (.methodLink R_law 12 (nY 11)) (by decide +kernel)) (hts (.instanceMethod (nY 11)) (by decide +kernel)) hm4 ⟨hm1.1, hm1.2.1, hm1.2.2⟩ ⟨by decide, by decide⟩)
    ⟨nPU_blind X0 _ _ _ _, fun U hU hW => ⟨rfl, va_K.moved hW.alike hK0, by rw [hU]; exact hP3, hD3, nNs_warm hW hNs, by rw [hU]; exact hS3.1⟩⟩ rfl rfl hl.1 rfl (lv_room (by show (1 : Nat) ≤ 8; decide)) (show decode code 12 = .ok (.invokespecial 12, 3) by decide +kernel) ⟨by decide, by decide⟩) hS3b (fun q _ h => hsub q h) (fun q h => hsub q h) (fun alM t4 H4 locs4 e4 _ hpM hBM _ hk4 hS4 => ?_)
  obtain ⟨hP4, hD4⟩ := hBM
  rw [e4] at hP4
  have hPC4 : va_P (zD X0) zcls (nw_W X0 alC ncsC) H4 := hPC3.kept (fun k q hk => hk4 q.1 ((hPC3 k q hk).lt) (Nat.not_le.mpr ((hP2 k q hk).lt)))
  refine lv_astore_n (lv' := [(2, .ref q1), (1, .ref q0), (0, .ref b)]) hx hcd (show decode code 15 = .ok (.astore_n 2, 1) by decide +kernel) rfl hl (by decide) rfl (fun ls hl => ?_)
  refine lv_iconst (v := 0) hx hcd (show decode code 16 = .ok (.iconst 0, 1) by decide +kernel) (by decide) ?_
  refine lv_istore_n (lv' := [(3, .int 0), (2, .ref q1), (1, .ref q0), (0, .ref b)]) hx hcd (show decode code 17 = .ok (.istore_n 3, 1) by decide +kernel) rfl hl (by decide) rfl (fun ls hl => ?_)
  obtain ⟨hXc, hAc⟩ := nmade (X := X0) (al := alC) (sad := sad) nckC ncloC nndC nloC hD2
  obtain ⟨hXm, hAm⟩ := nmade (X := X0) (al := alM) (sad := sad) nckM ncloM nndM nloM hD4
  have hst : ∀ (al : Nat → Nat) (dm : List (Nat × Nat)), (∀ a, zA (nXs X0 al sad dm) a → s.heap.size ≤ a) → zStr (nXs X0 al sad dm) s s.heap := fun al dm hA e he => by
    obtain ⟨h1, h2⟩ := hstr e he
    have e1 : zad (nXs X0 al sad dm) 200 e = sad e := by
      show (if (200 : Nat) = 200 then sad e else al (npl 200 e)) = sad e
      exact if_pos rfl
    have e2 : zav (nXs X0 al sad dm) e = sav e := congrFun hv0 e
    refine ⟨?_, ?_, lwsta hts hgv (fun a ha h => Nat.not_lt.mpr (hA a h) ha)⟩
    · have h3 := h1.narrow (B := zA (nXs X0 al sad dm)) (fun q hq => hA q hq)
      show vk_S 1 [zsN e] [zg zsB e []] (fun _ => zad (nXs X0 al sad dm) 200 e) (fun _ => zav (nXs X0 al sad dm) e) _ _ _
      rw [e1, e2]
      exact h3
    · rw [e1]; exact h2
  have hC : lwC l (nXs X0 alC sad (zdom zkC)) (nXs X0 alM sad (zdom zkM)) p s m c b L xs q0 q1 := by
    refine ⟨hx, hcd, hml, hown, htg, hX, hbl, hL, ⟨hl0, hXc, hK0, hst _ _ (fun a h => hAc a h), fun a h => hAc a h⟩, ⟨hl0, hXm, hK0, hst _ _ (fun a h => hsub a (hAm a h)), fun a h => hsub a (hAm a h)⟩, fun a h1 h2 => ?_, ⟨?_, (show (10, 0) ∈ zdom zkC by decide +kernel)⟩, ⟨?_, (show (11, 0) ∈ zdom zkM by decide +kernel)⟩⟩
    · obtain ⟨k, c9, hk⟩ := nzA nckC nloC h1
      exact absurd (hAm a h2) (Nat.not_le.mpr ((hP2 k _ hk).lt))
    · exact hpC 0 (by omega)
    · exact hpM 0 (by omega)
  exact lwloop hC hr hlk (by decide) (by decide) (L + 1) 0 (by omega) (by omega) nσ0 nσ0 H4 locs4 ls (lwzls hl) nqR0 ⟨nname nckC hPC4, nname nckM hP4, hS4⟩
