/-! CALLS: law, a FACT of a SIGN on both sides -/
def cop (b : Nat → Int32) (t q : Nat) : Nat := if pk b t q = 61 then 6 else if pk b t q = 60 then (if pk b t (q + 1) = 61 then 5 else 4) else (if pk b t (q + 1) = 61 then 7 else 8)
abbrev isC (x : Int32) : Prop := x = 60 ∨ x = 61 ∨ x = 62
def acO (op : Nat) : Prop := arO op ∨ cmO op
theorem rk_ac {op : Nat} (h : acO op) : op ≠ 12 ∧ 1 < op ∧ op ≠ 9 ∧ ¬ qren op / 10 < 4 := by
  rcases h with h | h <;> rcases h with rfl | rfl | rfl | rfl | rfl <;> decide
section
variable {b : Nat → Int32} {t : Nat} {c1 m1 : zH} {L B c0 N0 : Nat} {σ σc σm : zH} {pc pm q : Nat} {ex sg : Int32} {cnt : Nat} {A h0 h g : List Nat} {cc cm : List qop} {ts : List Bool} {f : Int32}
theorem tk_cmp (hc : isC (pk b t q)) : tkK b t q = 3 ∧ opc (tkV b t q) = qren (cop b t q) ∧ cmO (cop b t q) ∧ q < t ∧ tkA b t q ≤ t ∧ q + 1 ≤ tkA b t q ∧ (pk b t q = 61 → tkA b t q = q + 1) ∧ (pk b t q ≠ 61 → tkA b t q = if pk b t (q + 1) = 61 then q + 2 else q + 1) := by
  have hne : pk b t q ≠ -1 := by rcases hc with h | h | h <;> rw [h] <;> decide
  have hlt : q < t := by
    by_cases c : q < t
    · exact c
    · exact absurd (pkb_end (by omega)) hne
  have hA := tkA_le (b := b) (Nat.le_of_lt hlt)
  have hD : isD (pk b t q) = false := by rcases hc with h | h | h <;> rw [h] <;> decide
  have hW : isW (pk b t q) = false := by rcases hc with h | h | h <;> rw [h] <;> decide
  have kV : tkV b t q = sgV b t q := by unfold tkV; rw [if_neg hne, hD, hW]; rfl
  have kA : tkA b t q = sgA b t q := by unfold tkA; rw [if_neg hne, hD, hW]; rfl
  refine ⟨by unfold tkK; rw [if_neg hne, hD, hW]; rfl, ?_, ?_, hlt, hA.2.1, hA.2.2 hne, fun h => ?_, fun h => ?_⟩
  · rw [kV]
    unfold sgV cop
    rcases hc with h | h | h <;> rw [h] <;> by_cases e : pk b t (q + 1) = 61 <;> simp [e] <;> decide
  · unfold cop cmO
    rcases hc with h | h | h <;> rw [h] <;> by_cases e : pk b t (q + 1) = 61 <;> simp [e]
  · rw [kA]
    unfold sgA
    rw [h]
    by_cases e : pk b t (q + 1) = 61 <;> simp [e]
  · rw [kA]
    unfold sgA
    rcases hc with h' | h' | h'
    · rw [h']; by_cases e : pk b t (q + 1) = 61 <;> simp [e]
    · exact absurd h' h
    · rw [h']; by_cases e : pk b t (q + 1) = 61 <;> simp [e]
/-- the sign's road in the reference -/
theorem x11_c37 (hc : isC (pk b t q)) {σ2 : zH} (e : d_X11_isCounted σ (σ.1 11 0 31) = some σ2) (h31 : σ2.1 11 0 31 = nI q) (ht : txm b t σ2) : j_X11_compared_37 σ (pk b t q) = (d_X11_sum (uI (uI σ2 11 0 31 (nI (q + 1))) 11 0 31 (nI (tkA b t q)))).bind fun s => d_X11_entry s (nI (cop b t q)) 0 := by
  obtain ⟨-, -, -, hlt, -, -, a1, a2⟩ := tk_cmp hc
  have t400 := ht.1
  have hs : d_X11_sign (uI σ2 11 0 31 (nI (q + 1))) = some (uI σ2 11 0 31 (nI (q + 1)), pk b t (q + 1)) := x11_sign (ht.mv (by rw [uI_1, if_neg (by omega)]) (funext fun j => by rw [uI_1, if_neg (by omega)])) (by rw [uI_1, if_pos ⟨rfl, rfl, rfl⟩]) (by omega)
  have h1 : (uI σ2 11 0 31 (nI (q + 1))).1 11 0 31 = nI (q + 1) := by rw [uI_1, if_pos ⟨rfl, rfl, rfl⟩]
  unfold j_X11_compared_37
  rw [e]
  simp only [Option.bind_some, zlet]
  rw [h31, nI_1]
  unfold j_X11_compared_74 j_X11_compared_75 j_X11_compared_90 j_X11_compared_139 cop
  rw [hs]
  simp only [Option.bind_some, zlet, h1, bsome, Int32.add_zero]
  have m4 : nI 4 = 4 := rfl
  have m5 : nI 5 = 5 := rfl
  have m6 : nI 6 = 6 := rfl
  have m7 : nI 7 = 7 := rfl
  have m8 : nI 8 = 8 := rfl
  by_cases c61 : pk b t q = 61
  · rw [if_pos c61, if_pos trivial, a1 c61]
    simp [c61, m6]
  · rw [if_neg c61, a2 c61]
    by_cases e61 : pk b t (q + 1) = 61
    · rw [if_pos e61, if_neg i10, if_pos e61, nI_1, show q + 2 = q + 1 + 1 from rfl]
      by_cases c60 : pk b t q = 60 <;> simp [c61, c60, e61, m5, m7]
    · rw [if_neg e61, if_pos trivial, if_neg e61]
      by_cases c60 : pk b t q = 60 <;> simp [c61, c60, e61, m4, m8]
theorem x11_cmp0 (hs : d_X11_sum σm = some σ) (hg : d_X11_sign σ = some (σ, pk b t q)) (h31 : σ.1 11 0 31 = nI q) : d_X11_compared σm = if isC (pk b t q) then j_X11_compared_37 σ (pk b t q) else d_X11_fails σ (0 : Int32) (nI q) := by
  unfold d_X11_compared isC
  rw [hs]
  simp only [Option.bind_some]
  rw [hg]
  simp only [Option.bind_some, h31, bsome]
  by_cases a : pk b t q = 60
  · simp [a]
  · by_cases c : pk b t q = 61
    · simp [c]
    · by_cases d : pk b t q = 62
      · simp [d]
      · simp [a, c, d]
/-- its rest where a fault was met -/
theorem MF.cmp (F : MF b t m1 L B t σ f) (hs : d_X11_sum σm = some σ) : ∃ σ', d_X11_compared σm = some σ' ∧ MF b t m1 L B t σ' f := by
  obtain ⟨a, b1, b2, q, b3, b4⟩ := F
  have F : MF b t m1 L B t σ f := ⟨a, b1, b2, q, b3, b4⟩
  have t400 := a.1.1
  rw [x11_cmp0 hs (x11_sign a.1 b4 (by omega)) b4]
  by_cases hc : isC (pk b t q)
  · rw [if_pos hc]
    obtain ⟨-, -, -, k1, k2, -⟩ := tk_cmp hc
    obtain ⟨σ2, e2, F2, e31⟩ := F.counted (σ.1 11 0 31)
    rw [x11_c37 hc e2 (by rw [e31]; exact b4) F2.1.1]
    have F4 := (F2.up (p := q + 1) (by omega)).up (p := tkA b t q) k2
    obtain ⟨σ5, e5, F5⟩ := F4.sum
    rw [e5]
    simp only [Option.bind_some]
    rw [F5.entry]
    exact ⟨σ5, rfl, F5⟩
  · rw [if_neg hc]
    obtain ⟨σ2, e2, F2, -⟩ := F.fails 0 (nI q)
    exact ⟨σ2, e2, F2⟩
theorem FT.cmp {σ' : zH} (F : FT b t c1 m1 L B t pc σc σ') (hs : d_X11_sum σm = some σ') : ∃ σm', d_X11_compared σm = some σm' ∧ FT b t c1 m1 L B t pc σc σm' := by
  obtain ⟨ff, k5, σ5, f1, f2, f3, f4, f5, f6⟩ := F
  obtain ⟨σ2, e2, F2⟩ := f6.cmp hs
  exact ⟨σ2, e2, ff, k5, σ5, f1, f2, f3, f4, f5, F2⟩
/-- bytes -/
theorem by255 : ∀ n, n < 256 → (nI n - 128) &&& 255 < 256 := by decide +kernel
theorem txm.lt256 (h : txm b t σ) (i : Nat) : pk b t i ≠ 256 ∧ pk b t i ≠ 257 := by
  by_cases hi : i < t
  · obtain ⟨a1, a2, a3⟩ := h.2.2 i hi
    have e : σ.1 70 0 i = nI ((σ.1 70 0 i).toInt + 128).toNat - 128 := by
      rw [fa_eq, fb_subI (by rw [nI_toInt (by omega), i32_128]; omega) (by rw [nI_toInt (by omega), i32_128]; omega), nI_toInt (by omega), i32_128]
      omega
    have := by255 ((σ.1 70 0 i).toInt + 128).toNat (by omega)
    rw [← e, a1] at this
    rw [pkb_in hi]
    refine ⟨fun c => ?_, fun c => ?_⟩ <;> (rw [c] at this; exact absurd this (by decide))
  · rw [pkb_end (by omega)]
    exact ⟨by decide, by decide⟩
theorem noO_of (h : txm b t σ) (h5 : N5 (pk b t q)) (hc : ¬ isC (pk b t q)) : noO b t q := by
  intro hK
  obtain ⟨⟨n1, n2, n3⟩, n4, n5⟩ := h5
  obtain ⟨m1, m2⟩ := h.lt256 q
  have h60 : pk b t q ≠ 60 := fun e => hc (Or.inl e)
  have h61 : pk b t q ≠ 61 := fun e => hc (Or.inr (Or.inl e))
  have h62 : pk b t q ≠ 62 := fun e => hc (Or.inr (Or.inr e))
  have hV : tkV b t q = pk b t q := by
    unfold tkK at hK
    unfold tkV sgV
    by_cases q1 : pk b t q = -1
    · rw [if_pos q1] at hK; exact absurd hK (by decide)
    rw [if_neg q1] at hK ⊢
    cases q2 : isD (pk b t q) with
    | true => rw [q2, if_pos rfl] at hK; exact absurd hK (by decide)
    | false =>
      rw [q2] at hK
      cases q3 : isW (pk b t q) with
      | true => rw [q3] at hK; exact absurd hK (by decide)
      | false =>
        rw [if_neg (by decide), if_neg (by decide)]
        by_cases e : pk b t (q + 1) = 61
        · rw [if_pos e, if_neg h60, if_neg h62]
        · rw [if_neg e]
  rw [hV, if_neg n3, if_neg n1, if_neg n4, if_neg n5, if_neg n2, if_neg h60, if_neg h61, if_neg h62, if_neg m1, if_neg m2]
/-- a FACT made of a SIGN -/
theorem C_both (P : PT b t c1 m1 L B c0 N0 σc σm pc pm ex sg cnt [] g g cc cm ts) (R : VR b t c1 L B (en isB b t pc) ex sg 0 cnt g cc) (h0r : ∀ x r, g = x :: r → qren x / 10 < 4) :
    ∃ σm', d_X11_compared σm = some σm' ∧ RS b t c1 m1 L B c0 N0 σc pc 1 g g (true :: ts) acO N5 σm' := by
  have t400 := P.1.1.1.1
  have h0r5 : ∀ x r, g = x :: r → qren x / 10 < 5 := fun x r e => by
    have := h0r x r e
    rw [fa_lt, show (5 : Int32).toInt = 5 by decide]
    rw [fa_lt, show (4 : Int32).toInt = 4 by decide] at this
    omega
  obtain ⟨σ3, e3, R3⟩ := S_both P R h0r5
  rcases R3 with ⟨k4, σ4, pc4, pm4, cnt4, A4, cc4, cm4, q1, s4, P4, hp4, hA4, hN4⟩ | F
  · obtain ⟨p1, p2, p3, p4⟩ := P4.at hp4
    have P40 := P4
    obtain ⟨H, M, e1, e2, I, hl⟩ := P4
    have hl2 := I.len
    have hcnt := I.2.2.1
    have hcm : cm4.length = cc4.length + A4.length := by rw [e1, List.length_append]; simp [ops]
    obtain ⟨τ, n1, k, hq, T⟩ := H.next
    rw [p1] at k T
    have st : ∀ σ', d_X5_takeOperator τ = some σ' → cgo 1 σ4 σ' := fun σ' e => cgo_1 ⟨by rw [H.2.2.1.2.2.1]; decide, H.2.1.1, τ, n1, by
      unfold d_X5_take
      rw [T.2.2.1.2.2.1, if_neg (by decide), if_neg (by decide), if_neg (by decide), if_pos rfl, bsome]; exact e⟩
    rw [x11_cmp0 e3 M.sign M.2.1.2.1]
    have hA : ∀ x, x ∈ A4 → x ≠ 12 ∧ 1 < x ∧ ¬ qren x / 10 < 4 := fun x hx => ⟨(rk_ac (Or.inl (hA4 x hx))).1, (rk_ac (Or.inl (hA4 x hx))).2.1, (rk_ac (Or.inl (hA4 x hx))).2.2.2⟩
    by_cases hc : isC (pk b t pm4)
    · rw [if_pos hc]
      obtain ⟨k1, k2, k3, k4', k5, k6, -⟩ := tk_cmp hc
      obtain ⟨v1, v2⟩ := T.cmp k k1 k3 k2 h0r (by omega) (by omega) hA hcnt
      obtain ⟨w1, w2⟩ := M.counted (m := t) (q := pm4) (by omega) hcnt (by omega)
      by_cases h60 : cnt4 = 60
      · obtain ⟨x, x1, x2⟩ := v2 h60
        obtain ⟨y, y1, y2, y3⟩ := w2 h60
        obtain ⟨f1, f2⟩ := flt_ok (c := 3) (q := pm4) (by omega) (by decide) (by decide)
        rw [x11_c37 hc (by rw [M.2.1.2.1]; exact y1) y3 y2.1.1]
        have F4 := (y2.up (p := pm4 + 1) (by omega)).up (p := tkA b t pm4) k5
        obtain ⟨σ5, e5, F5⟩ := F4.sum
        rw [e5]
        simp only [Option.bind_some]
        rw [F5.entry]
        exact ⟨σ5, rfl, RS.pre s4 (by omega) (Or.inr ⟨_, 1, x, f1, f2, by omega, st x x1, x2, F5⟩)⟩
      · obtain ⟨x, x1, x2⟩ := v1 (by omega)
        obtain ⟨y, y1, y2⟩ := w1 (by omega)
        rw [x11_c37 hc (by rw [M.2.1.2.1]; exact y1) y2.2.1.2.1 y2.1.1]
        have M5 := (y2.u31 (p := pm4 + 1) (by omega)).u31 (p := tkA b t pm4) k5
        have hop : 1 < cop b t pm4 ∧ cop b t pm4 ≠ 9 ∧ qren (cop b t pm4) / 10 = 4 := ⟨(rk_ac (Or.inr k3)).2.1, (rk_ac (Or.inr k3)).2.2.1, (qren_cm k3).2.2.2.2⟩
        rw [← e1] at x2
        have I5 : IV B c0 N0 (tkA b t pm4) (cnt4 + 1) g cm4 (false :: ts) := by
          obtain ⟨a1, a2, a3, a4, a5, a6⟩ := I
          exact ⟨a1, by omega, by omega, by omega, by omega, a6⟩
        have P5 : PT b t c1 m1 L B c0 N0 x (uI (uI y 11 0 31 (nI (pm4 + 1))) 11 0 31 (nI (tkA b t pm4))) (tkA b t pm4) (tkA b t pm4) 2 1 (cnt4 + 1) [] (cop b t pm4 :: g) g cm4 cm4 (false :: ts) := by
          refine ⟨x2, M5, by simp [ops], rfl, I5, ?_⟩
          simp only [List.nil_append, List.length_cons, List.length_append] at hl ⊢
          omega
        obtain ⟨σ6, e6, R6⟩ := S_both P5 (VR_2 _) (fun z r e => by cases e; rw [hop.2.2]; decide)
        rw [e6]
        simp only [Option.bind_some]
        rcases R6 with ⟨k7, σ7, pc7, pm7, cnt7, A7, cc7, cm7, q7, s7, P7, hp7, hA7, hN7⟩ | F
        · have I7 := P7.2.2.2.2.1
          have l7 := I7.len
          obtain ⟨σ8, e8, M8⟩ := P7.2.1.entry (by omega) (x := nI (cop b t pm4)) (a := 0) (cop b t pm4) 0 rfl (fun _ => rfl)
          rw [e8]
          have eA : A7 ++ cop b t pm4 :: g = (A7 ++ [cop b t pm4]) ++ g := by simp
          refine ⟨σ8, rfl, RS.pre (pc' := pc7) (cgo_app s4 (cgo_app (st x x1) s7)) ?_ (Or.inl ⟨0, σ7, pc7, pm7, cnt7, A7 ++ [cop b t pm4], cc7, cm7 ++ [(cop b t pm4, 0)], by omega, rfl, ⟨by rw [← eA]; exact P7.1, M8, by rw [P7.2.2.1, ops_app, List.append_assoc]; rfl, P7.2.2.2.1, I7.op hop.1 hop.2.1 (qty_cm k3 _), by rw [← eA]; exact P7.2.2.2.2.2⟩, hp7, fun z hz => ?_, hN7⟩)⟩
          · omega
          · rw [List.mem_append, List.mem_singleton] at hz
            rcases hz with hz | rfl
            · exact Or.inl (hA7 z hz)
            · exact Or.inr k3
        · have F2 := F.pre (cgo_app s4 (st x x1)) (show k4 + 1 + pc ≤ tkA b t pm4 by omega)
          obtain ⟨ff, k9, σ9, f1, f2, f3, f4, f5, f6⟩ := F2
          rw [f6.entry]
          exact ⟨σ6, rfl, Or.inr ⟨ff, k9, σ9, f1, f2, f3, f4, f5, f6⟩⟩
    · rw [if_neg hc]
      obtain ⟨x, x1, x2⟩ := T.none0 k (noO_of M.1.1 hN4 hc)
      obtain ⟨y, y1, y2, -⟩ := M.fails (m := t) (by omega) 0 (by decide) (by decide) (q := pm4) (by omega)
      obtain ⟨f1, f2⟩ := flt_ok (c := 0) (q := pm4) (by omega) (by decide) (by decide)
      exact ⟨y, y1, RS.pre s4 (by omega) (Or.inr ⟨_, 1, x, f1, f2, by omega, st x x1, x2, y2⟩)⟩
  · obtain ⟨σ5, e5, F5⟩ := F.cmp e3
    exact ⟨σ5, e5, Or.inr F5⟩
end
