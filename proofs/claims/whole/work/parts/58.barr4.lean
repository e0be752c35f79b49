/-! CALLS: barracks, a clause -/
section
variable {b : Nat → Int32} {t : Nat} {σc0 σm0 σc σm : zH} {f : Int32} {p : Nat}
theorem ST.tok (h : ST b t σc0 σm0 σc σm 0 p) : ∃ c1 m1 q, d_X7_next σc = some c1 ∧ d_X11_blanks σm = some m1 ∧ tkn b t q c1 ∧ q ≤ t ∧ txc b t c1 ∧ txm b t m1 ∧ (∀ k i j, k ≠ 7 → c1.1 k i j = σc.1 k i j) ∧ (∀ k i j, ¬ (k = 11 ∧ (j = 31 ∨ j = 32)) → m1.1 k i j = σm.1 k i j) ∧ m1.1 11 0 31 = nI q ∧ m1.1 11 0 32 = 0 ∧
    (∀ p', c1.1 7 0 1 = nI p' → p' ≤ t → ST b t σc0 σm0 c1 (uI m1 11 0 31 (nI p')) 0 p') ∧
    (∀ c : Int32, 0 ≤ c.toInt → c.toInt ≤ 7 → ∃ c2 m2, d_X7_fail c1 c = some c2 ∧ d_X11_fails m1 c (nI q) = some m2 ∧ ST b t σc0 σm0 c2 m2 (flt 0 c q) q ∧ ¬ flt 0 c q = 0) := by
  obtain ⟨h1, h2, h3, h4, h5, h6, h7, h8, h9, h10⟩ := h
  have ht := h1.1
  obtain ⟨m1, e1, z1⟩ := x11_blanks h2 h7 h8
  obtain ⟨c1, e2, z2, n2, k2, k3, k4, k1⟩ := x7_next h1 (h9 rfl) h8
  have hq := (en_spec isB_m1 b t p).2.1 h8
  generalize en isB b t p = q at z1 k2 k3 k4 k1 hq
  have m32 : m1.1 11 0 32 = 0 := by rw [z1.2.1 11 0 32 (by omega)]; exact h6
  have c5 : c1.1 7 0 5 = 0 := by rw [n2]; exact h5
  have fr : ∀ k j, ¬ Fbm k j → m1.1 k 0 j = σm0.1 k 0 j := fun k j hk => by
    rw [z1.2.1 k 0 j (fun q => hk (Or.inr ⟨q.1, by omega⟩))]; exact h4 k j hk
  have zz : zsm Fb σc0 c1 := h3.tr (z2.mono (fun k i q => Or.inl q))
  refine ⟨c1, m1, q, e2, e1, ⟨k2, k3, k4, k1⟩, hq, z2.tx h1, z1.tx h2, fun k i j hk => by rw [(z2 k i hk).1], fun k i j hk => z1.2.1 k i j (by omega), z1.2.2, m32, fun p' hp' hpt' => ?_, fun c hc0 hc7 => ?_⟩
  · refine ⟨z2.tx h1, z1.up.tx h2, zz, fun k j hk => ?_, c5, by rw [uI_1, if_neg (by omega)]; exact m32, by rw [uI_1, if_pos ⟨rfl, rfl, rfl⟩], hpt', fun _ => hp', h10⟩
    rw [uI_1, if_neg (fun q => hk (Or.inr ⟨q.1, by omega⟩))]
    exact fr k j hk
  · obtain ⟨c2, g1, g2, g3, g4⟩ := x7_fail k2 c
    obtain ⟨m2, w1, w2, w3, w4⟩ := x11_fails m1 c q
    have n0 : ¬ flt 0 c q = 0 := flt_n0 (by omega) hc0 hc7
    refine ⟨c2, m2, g1, w1, ⟨g2.tx (z2.tx h1), w2.tx (z1.tx h2), zz.tr (g2.mono (fun k i q => Or.inl q)), fun k j hk => ?_, by rw [g3, c5], by rw [w3, m32], by rw [w4]; exact z1.2.2, hq, fun e => absurd e n0, flt_nn (by omega) hc0 hc7 (by decide)⟩, n0⟩
    rw [w2.2 k 0 j (fun q => hk (Or.inr ⟨q.1, by omega⟩))]
    exact fr k j hk
theorem wrd_cg {e e' : Nat} (h : zg zsB e [] = zg zsB e' []) (q : Nat) : wrd b t q e = wrd b t q e' := by
  unfold wrd zsN zsC
  rw [h]
theorem wrd_end {q e : Nat} (he : e < 36) (h : wrd b t q e = true) : en isW b t q = q + zsN e ∧ tkA b t q = q + zsN e := by
  have h0 := (word_ok e he).1
  unfold wrd at h
  rw [Bool.and_eq_true] at h
  have h1 : en isW b t q - q = zsN e := of_decide_eq_true h.1
  have hs := en_spec isW_m1 b t q
  have e1 : en isW b t q = q + zsN e := by omega
  refine ⟨e1, ?_⟩
  have hw : isW (pk b t q) = true := by
    cases q3 : isW (pk b t q) with
    | true => rfl
    | false =>
      rw [en_stop q3, Nat.sub_self] at h1
      omega
  have q1 : pk b t q ≠ -1 := fun c => by rw [c, isW_m1] at hw; cases hw
  have q2 : isD (pk b t q) = false := by
    cases q4 : isD (pk b t q) with
    | false => rfl
    | true =>
      have a := isD_rng q4
      unfold isW at hw
      rw [Bool.and_eq_true] at hw
      have : ¬ pk b t q < 97 := fun c => by rw [decide_eq_true c] at hw; exact absurd hw.1 (by decide)
      rw [fa_lt, show (97 : Int32).toInt = 97 by decide] at this
      omega
  unfold tkA
  rw [if_neg q1, q2, hw, if_neg (by decide), if_pos rfl, e1]
theorem x1_many {σ σ' : zH} {x : Int32} (h : ¬ x = 0 ∨ ¬ σ.1 1 0 2 = 0) (hf : d_X7_fail σ (4 : Int32) = some σ') : d_X1_isOneTooMany σ x = some (σ', 1) := by
  have go : j_X1_isOneTooMany_11 σ = some (σ', 1) := by
    unfold j_X1_isOneTooMany_11 j_X1_isOneTooMany_16
    rw [if_neg i10, hf]
    simp only [Option.bind_some]
    exact tv_01 (Or.inr rfl)
  unfold d_X1_isOneTooMany
  by_cases hx : x = 0
  · rw [if_pos hx, if_neg (h.resolve_left (fun q => q hx))]
    exact go
  · rw [if_neg hx]
    exact go
end
