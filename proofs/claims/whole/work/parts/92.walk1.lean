/-! THE LAW'S WALK -/
def lwX (l : Launch) (X : zX) (s : State) : Prop := zl X = l ∧ zHX X ∧ va_K (zD X) zcls (ztys X) s ∧ zStr X s s.heap ∧ ∀ a, zA X a → s.heap.size ≤ a
def lwad (b c1 c2 : Nat) : Nat → Nat → Nat := nw_ad fun j => if j = 0 then b else if j = 1 then c1 else c2
def lwL (i : Int32) : List zAV := [vR 0 0, vR 0 1, vR 0 2, vI i]
theorem zA_of {X : zX} {σ : zH} {k : Nat} {q : Nat × va_E} (h : (zw X σ)[k]? = some q) : zA X q.1 := by
  have h : ((zdm X).map fun q => (zad X q.1 q.2, zent X σ q.1 q.2))[k]? = some q := h
  rw [List.getElem?_map] at h
  cases e : (zdm X)[k]? with
  | none => rw [e] at h; cases h
  | some p => rw [e] at h; cases h; exact ⟨p, List.mem_of_getElem? e, rfl⟩
section
variable {p : Program} {e : Env} {s : State} {m : MethodId} {below : List Frame} {meth : Method} {c : Code} {b : Nat} {H : Heap} {locs : List Loc} {kc ks : Nat} {Q : State → Prop} {ls : Array Slot} {l : Launch}
/-- a call of the one side leaves the other -/
theorem lwcall {X Y : zX} {σ σ' τ : zH} {n z pc : Nat} {t : List zAV} {v : Int32} {rest : List Value} (hexec : p.tables.exec = Jvm.exec) (hcode : c.code = code) (hml : c.maxLocals = 4) (hown : s.vm.findClass R_law = some m.cls) (hts : ∀ w ∈ lw_good, w.before #[Value.ref b] s = true)
    (hX : lwX l X s) (hdis : ∀ a, zA X a → ¬ zA Y a) (hn : zmok n) (hs0 : mSt n = 0) (hd : mD n ≤ 15) (hM : zMet X n σ (vR (zkd n) 0 :: t) σ' (vI v)) (hdom : (zkd n, 0) ∈ zdm X) (htl : t.length = mP n) (hw : Cond.methodLink R_law z (mY n) ∈ lw_good) (hdg : decode code pc = .ok (.invokevirtual z, 3))
    (hls : ls.size = 4) (hrest : (rest.map fun v => v.category).sum ≤ 8) (hP : va_P (zD X) zcls (zw X σ) H) (hPY : va_P (zD Y) zcls (zw Y τ) H) (hS : va_S (nFr s.heap.size) s.heap H locs)
    (kk : ∀ (H1 : Heap) (locs1 : List Loc), va_P (zD X) zcls (zw X σ') H1 → va_P (zD Y) zcls (zw Y τ) H1 → va_S (nFr s.heap.size) s.heap H1 locs1 → W p l e room_1 s m #[Value.ref b] below meth c H1 locs1 kc ks Q (F0 m (pc + 3) ls (.int v :: rest))) :
    kc ≤ 600000 → ks ≤ 7302250 → W p l e room_1 s m #[Value.ref b] below meth c H locs kc ks Q (F0 m pc ls ((t.map (cV (zad X))).reverse ++ .ref (zad X (zkd n) 0) :: rest)) := by
  intro hkc hks
  obtain ⟨rfl, hX1, hK, hStr, hbs⟩ := hX
  have hmo := hn.1
  unfold zmokA at hmo
  simp only [Bool.and_eq_true, decide_eq_true_eq] at hmo
  obtain ⟨⟨⟨⟨⟨⟨⟨⟨⟨m2, m3⟩, m4⟩, m5⟩, m6⟩, m7⟩, m8⟩, m9⟩, m10⟩, m11⟩ := hmo
  rw [if_pos hs0] at m3
  rw [Bool.and_eq_true] at m3
  obtain ⟨q0, -, hq⟩ := zw_at hdom σ
  rw [zent_o m8] at hq
  have hcell := va_recv hK hP (zcls_at _ m8) hq
  have hM2 : Met (zl X) (mY n) (zws n) (zrm (mD n)) (va_Pc (Value.ref (zad X (zkd n) 0) :: t.map (cV (zad X))) (zPU X σ)) (zQ X σ' (vI v)) 0 0 (zA X) := hM
  have hSt : ∀ U : State, U.heap = H → s.WarmedH U.vm → zStr X U U.heap := fun U hU hW e he => by
    obtain ⟨h1, h2, h3, h4⟩ := hStr e he
    have hk : ∀ a, a < s.heap.size → ¬ zA X a → H[a]? = s.heap[a]? := fun a ha _ => hS.2.1 a ha (Nat.not_le.mpr ha)
    refine ⟨?_, h2.warm hW, ?_, ?_⟩
    · rw [hU]; exact (h1.kept hk).moved hW.alike
    · rw [hU]; exact (h3.kept hk).moved hW.alike
    · rw [hU]; exact (h4.kept hk).moved hW.alike
  have hrun := va_runV (p := p) (e := e) (R := room_1) (below := below) (meth := meth) (H := H) (locs := locs) (cells := kc) (slots := ks) (As := t.map (cV (zad X))) (rest := rest) (b := zad X (zkd n) 0) (C := (mY n).cls) (n := mP n) (index := z) (g := F0 m pc ls ((t.map (cV (zad X))).reverse ++ .ref (zad X (zkd n) 0) :: rest))
    ⟨hexec, hcode, hml, hown, hts⟩ hM2
    (cwV (mP n) hts (fun w hw2 => by
      rcases List.mem_append.mp hw2 with q | q
      · have q2 : w = .methodLink R_law z (mY n) ∨ w = .instanceMethod (mY n) ∨ w = .selects (mY n).cls (mY n) (mY n) ∨ w = .initialized (mY n).cls := by simpa using q
        have q3 : w ∈ lw_good := by
          rcases q2 with rfl | rfl | rfl | rfl
          · exact hw
          · exact zwd_in m3.1
          · exact zwd_in m3.2
          · exact zwd_in m2
        exact ⟨q3, zgood_all _ q3⟩
      · exact zws_good hn w q) rfl rfl rfl ⟨rfl, m5, m6, m7⟩ ⟨by rw [zrm_f]; show mD n + 1 ≤ 16; omega, by rw [zrm_l]; show 8 + (mL n + 11) + 30 * mD n ≤ 614; omega⟩)
    ⟨zPU_blind X _ σ, by rw [← m9]; exact hcell, fun U hU hW => ⟨rfl, va_K.moved hW.alike hK, by rw [hU]; exact hP, hSt U hU hW⟩⟩
    rfl (by rw [List.length_map]; exact htl) hls rfl (lv_room hrest) hdg ⟨hkc, hks⟩
  intro T hT X0
  obtain ⟨v0, st₀, t9, T', L0, h0, X', hL, e1, e2, ⟨hv, hP1, hF⟩, st⟩ := hrun T hT X0
  cases hv
  unfold va_F at hF
  rw [h0] at hF
  obtain ⟨t2, a1, b1⟩ := kk T'.heap (locs ++ L0) (by rw [e1]; exact hP1) (hPY.kept (fun k q hk => by
      rw [e1]
      exact hF.2 q.1 ((hPY k q hk).lt) (fun ha => hdis _ ha (zA_of hk))))
    ⟨Nat.le_trans hS.1 (by rw [e1]; exact hF.1), fun q h1 h2 => by rw [e1, hF.2 q (Nat.lt_of_lt_of_le h1 hS.1) (fun ha => h2 (hbs q ha))]; exact hS.2.1 q h1 h2, fun q hq => by
      rcases List.mem_append.mp hq with h | h
      · exact hS.2.2 q h
      · exact hbs _ (hL q h)⟩ T' rfl X'
  exact ⟨t2, st t2 a1, b1⟩
/-- one int of the script -/
theorem lwarg {xs : Nat → Int32} {L n j pc c1 c2 : Nat} {rest : List Value} (hexec : p.tables.exec = Jvm.exec) (hcode : c.code = code) (hXs : va_X b L xs s s.heap) (hb : b < s.heap.size) (hS : va_S (nFr s.heap.size) s.heap H locs) (hls : zls (lwad b c1 c2) ls 4 (lwL (nI n))) (hn : n + j < L) (hL : L ≤ 3072) (hj : j < 6)
    (d1 : decode code pc = .ok (.aload_n 0, 1)) (d2 : decode code (pc + 1) = .ok (.iload_n 3, 1)) (d3 : decode code (pc + 2) = .ok (.iconst (j : Int), 1)) (d4 : decode code (pc + 3) = .ok (.iadd, 1)) (d5 : decode code (pc + 4) = .ok (.iaload, 1))
    (kk : W p l e room_1 s m #[Value.ref b] below meth c H locs kc ks Q (F0 m (pc + 5) ls (.int (xs (n + j)) :: rest))) : W p l e room_1 s m #[Value.ref b] below meth c H locs kc ks Q (F0 m pc ls rest) := by
  refine lv_aload_n hexec hcode d1 rfl (zls_ld (v := vR 0 0) hls rfl (vR_ne 0 0)) ?_
  refine lv_iload_n hexec hcode d2 rfl (zls_ld (v := vI (nI n)) hls rfl (vI_ne _)) ?_
  refine lv_iconst hexec hcode d3 (v := nI j) (by
    show Int32.ofInt (j : Int) = Int32.ofNat j
    rfl) ?_
  refine lv_iadd hexec hcode d4 ?_
  have e2 : nI n + nI j = nI (n + j) := by
    show Int32.ofNat n + Int32.ofNat j = Int32.ofNat (n + j)
    exact (Int32.ofNat_add n j).symm
  rw [e2]
  have e3 : (nI (n + j)).toNatClampNeg = n + j := nI_clamp (by omega)
  refine va_sld (A := nFr s.heap.size) hexec hcode hXs hb (Nat.not_le.mpr hb) hS (i := nI (n + j)) ?_ d5 ?_
  · intro h
    rcases h with h | h
    · exact nI_pos (show n + j < 2 ^ 31 by omega) h
    · rw [e3] at h; omega
  · rw [e3]; exact kk
end
