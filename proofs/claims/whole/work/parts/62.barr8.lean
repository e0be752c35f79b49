/-! CALLS: barracks, the clause -/
theorem x11_bword (m1 : zH) {x : Nat} (hx : x < 4) : d_X11_barracksWord m1 (nI x) = some (m1, 19 + x) := by
  unfold d_X11_barracksWord
  have : x = 0 ∨ x = 1 ∨ x = 2 ∨ x = 3 := by omega
  rcases this with rfl | rfl | rfl | rfl
  · rw [if_pos nI_0]
  · rw [if_neg (by decide), if_pos nI_one]
  · rw [if_neg (by decide), if_neg (by decide), if_pos (show nI 2 = (2 : Int32) from rfl)]
  · rw [if_neg (by decide), if_neg (by decide), if_neg (by decide)]
section
variable {b : Nat → Int32} {t : Nat} {σc0 σm0 σc σm : zH} {p : Nat}
theorem cl_step {m1 : zH} {q : Nat} (tm : txm b t m1) (m31 : m1.1 11 0 31 = nI q) (hq : q ≤ t) {x : Nat} (hx : x < 4) (f k : Nat) : k_X11_barracksClause_11 j_X11_barracksClause_33 (f + 1) m1 (nI k) (nI q) (nI x) = if wrd b t q (19 + x) = true then j_X11_barracksClause_33 m1 (nI k) (nI q) (nI x) else k_X11_barracksClause_11 j_X11_barracksClause_33 f m1 (nI k) (nI q) (nI (x + 1)) := by
  rw [k_X11_barracksClause_11, if_pos (show nI x < (4 : Int32) from nI_lt (b := 4) hx (by omega)), x11_bword m1 hx]
  simp only [Option.bind_some]
  rw [x11_stood tm m31 hq _ (by omega), nI_1]
  simp only [Option.bind_some]
  cases wrd b t q (19 + x) with
  | true => rw [if_neg (show ¬ b2i true = 0 by decide), if_pos rfl]
  | false => rw [if_pos (show b2i false = 0 from rfl), if_neg (by decide)]
theorem cl_words {c1 : zH} {q k : Nat} {full : Bool} (e1 : d_X7_next (uI σc 1 0 2 (b2i full)) = some c1) (i0 : d_X7_isWord c1 0 = some (c1, b2i (wrd b t q 0))) (i1 : d_X7_isWord c1 1 = some (c1, b2i (wrd b t q 1))) (i2 : d_X7_isWord c1 2 = some (c1, b2i (wrd b t q 2))) (i3 : d_X7_isWord c1 3 = some (c1, b2i (wrd b t q 3))) (c28 : zH → Int32 → Int32 → Option (zH × Int32)) : j_X1_readCamp_50 c28 σc (nI k) (b2i full) = (if wrd b t q 0 = true then (d_X1_readCompany c1).bind fun s => j_X1_readCamp_144 c28 s (nI k) else if wrd b t q 1 = true then (d_X1_readBell c1).bind fun s => j_X1_readCamp_144 c28 s (nI k) else if wrd b t q 2 = true then (d_X1_readDuty c1).bind fun s => j_X1_readCamp_144 c28 s (nI k) else if wrd b t q 3 = true then (d_X1_readWatch c1).bind fun s => j_X1_readCamp_144 c28 s (nI k) else (d_X7_fail c1 (0 : Int32)).bind fun s => j_X1_readCamp_144 c28 s (nI k)) := by
  have b0 : ∀ (w : Bool) {α : Type} (x y : α), (if b2i w = 0 then x else y) = if w = true then y else x := fun w α x y => by cases w <;> rfl
  unfold j_X1_readCamp_50
  rw [tv_01 (b2i_01 _)]
  simp only [zlet, e1, Option.bind_some, i0, i1, i2, i3, b0]
theorem b_body (h : ST b t σc0 σm0 σc σm 0 p) {n bl d : Nat} (B : BB σc σm n bl d) {k : Nat} (hk : k ≤ 24) :
    ∃ c2 m2 f2 p2, (∀ c28, j_X1_readCamp_50 c28 σc (nI k) (b2i (decide (k = 24))) = j_X1_readCamp_144 c28 c2 (nI k)) ∧ d_X11_barracksClause σm (nI k) = some m2 ∧ ST b t σc0 σm0 c2 m2 f2 p2 ∧ (f2 = 0 → ∃ n bl d, BB c2 m2 n bl d) ∧ (k = 24 → ¬ f2 = 0) := by
  obtain ⟨c1, m1, q, e1, e2, tk, hq, tc, tm, C, M, m31, m32, good, bad⟩ := (h.uc (k := 1) (j := 2) (by omega) (b2i (decide (k = 24)))).tok
  have B1 : BB c1 m1 n bl d := B.mv (fun kk j a1 a2 => by rw [C _ _ _ a1, uI_1, if_neg (by omega)]) (fun kk j a1 => M _ _ _ a1)
  have h2 : c1.1 1 0 2 = b2i (decide (k = 24)) := by rw [C _ _ _ (by omega), uI_1, if_pos ⟨rfl, rfl, rfl⟩]
  have i0 := x7_isWord tc tk hq 0 (by omega)
  have i1 := x7_isWord tc tk hq 1 (by omega)
  have i2 := x7_isWord tc tk hq 2 (by omega)
  have i3 := x7_isWord tc tk hq 3 (by omega)
  have g0 : wrd b t q 0 = wrd b t q (19 + 0) := wrd_cg (by decide +kernel) q
  have g1 : wrd b t q 1 = wrd b t q (19 + 1) := wrd_cg (by decide +kernel) q
  have g2 : wrd b t q 2 = wrd b t q (19 + 2) := wrd_cg (by decide +kernel) q
  have g3 : wrd b t q 3 = wrd b t q (19 + 3) := wrd_cg (by decide +kernel) q
  have hm : d_X11_barracksClause σm (nI k) = k_X11_barracksClause_11 j_X11_barracksClause_33 (4091 + 1 + 1 + 1 + 1 + 1) m1 (nI k) (nI q) (nI 0) := by
    unfold d_X11_barracksClause
    rw [e2]
    show k_X11_barracksClause_11 j_X11_barracksClause_33 zN m1 (nI k) (m1.1 11 0 31) (0 : Int32) = _
    rw [m31, nI_c0, show zN = 4091 + 1 + 1 + 1 + 1 + 1 from zN_eq]
  have hc : ∀ c28, j_X1_readCamp_50 c28 σc (nI k) (b2i (decide (k = 24))) = (if wrd b t q 0 = true then (d_X1_readCompany c1).bind fun s => j_X1_readCamp_144 c28 s (nI k) else if wrd b t q 1 = true then (d_X1_readBell c1).bind fun s => j_X1_readCamp_144 c28 s (nI k) else if wrd b t q 2 = true then (d_X1_readDuty c1).bind fun s => j_X1_readCamp_144 c28 s (nI k) else if wrd b t q 3 = true then (d_X1_readWatch c1).bind fun s => j_X1_readCamp_144 c28 s (nI k) else (d_X7_fail c1 (0 : Int32)).bind fun s => j_X1_readCamp_144 c28 s (nI k)) := fun c28 => cl_words e1 i0 i1 i2 i3 c28
  have fin : ∀ x y, OUT b t σc0 σm0 k x y → (∀ c28, j_X1_readCamp_50 c28 σc (nI k) (b2i (decide (k = 24))) = x.bind fun s => j_X1_readCamp_144 c28 s (nI k)) → d_X11_barracksClause σm (nI k) = y → ∃ c2 m2 f2 p2, (∀ c28, j_X1_readCamp_50 c28 σc (nI k) (b2i (decide (k = 24))) = j_X1_readCamp_144 c28 c2 (nI k)) ∧ d_X11_barracksClause σm (nI k) = some m2 ∧ ST b t σc0 σm0 c2 m2 f2 p2 ∧ (f2 = 0 → ∃ n bl d, BB c2 m2 n bl d) ∧ (k = 24 → ¬ f2 = 0) := fun x y ho hx hy => by
    obtain ⟨c2, m2, f2, p2, o1, o2, o3, o4, o5⟩ := ho
    exact ⟨c2, m2, f2, p2, fun c28 => by rw [hx, o1]; rfl, by rw [hy, o2], o3, o4, o5⟩
  rw [cl_step tm m31 hq (by omega), cl_step tm m31 hq (by omega), cl_step tm m31 hq (by omega), cl_step tm m31 hq (by omega), ← g0, ← g1, ← g2, ← g3] at hm
  by_cases w0 : wrd b t q 0 = true
  · exact fin _ _ (w_company hk B1 h2 m31 hq w0 tk.2.2.2 good bad) (fun c28 => by rw [hc, if_pos w0]) (by rw [hm, if_pos w0])
  rw [if_neg w0] at hm
  by_cases w1 : wrd b t q 1 = true
  · exact fin _ _ (w_bell hk B1 h2 m31 hq w1 tk.2.2.2 good bad) (fun c28 => by rw [hc, if_neg w0, if_pos w1]) (by rw [hm, if_pos w1])
  rw [if_neg w1] at hm
  by_cases w2 : wrd b t q 2 = true
  · exact fin _ _ (w_duty hk B1 h2 m31 hq w2 tk.2.2.2 good bad) (fun c28 => by rw [hc, if_neg w0, if_neg w1, if_pos w2]) (by rw [hm, if_pos w2])
  rw [if_neg w2] at hm
  by_cases w3 : wrd b t q 3 = true
  · exact fin _ _ (w_watch hk B1 h2 m31 hq w3 tk.2.2.2 good bad) (fun c28 => by rw [hc, if_neg w0, if_neg w1, if_neg w2, if_pos w3]) (by rw [hm, if_pos w3])
  rw [if_neg w3] at hm
  obtain ⟨c2, m2, v1, v2, v3, v4⟩ := bad 0 (by decide) (by decide)
  refine fin (some c2) (some m2) ⟨c2, m2, _, q, rfl, rfl, v3, fun e => absurd e v4, fun _ => v4⟩ (fun c28 => by rw [hc, if_neg w0, if_neg w1, if_neg w2, if_neg w3, v1]) ?_
  rw [hm, k_X11_barracksClause_11, if_neg (show ¬ nI (0 + 1 + 1 + 1 + 1) < (4 : Int32) from nI_nlt (b := 4) (by omega) (by omega))]
  unfold j_X11_barracksClause_33
  rw [if_pos (show nI (0 + 1 + 1 + 1 + 1) = (4 : Int32) from rfl), v2]
  rfl
end
