/-! CALLS: barracks, each word read, the rest -/
section
variable {b : Nat → Int32} {t : Nat} {σc0 σm0 c1 m1 : zH} {q k n bl d : Nat}
theorem w_bell (hkk : k ≤ 24) (B : BB c1 m1 n bl d) (h2 : c1.1 1 0 2 = b2i (decide (k = 24))) (m31 : m1.1 11 0 31 = nI q) (hqt : q ≤ t) (hw : wrd b t q 1 = true) (htk : c1.1 7 0 1 = nI (tkA b t q))
    (good : ∀ p', c1.1 7 0 1 = nI p' → p' ≤ t → ST b t σc0 σm0 c1 (uI m1 11 0 31 (nI p')) 0 p') (bad : ∀ c : Int32, 0 ≤ c.toInt → c.toInt ≤ 7 → ∃ c2 m2, d_X7_fail c1 c = some c2 ∧ d_X11_fails m1 c (nI q) = some m2 ∧ ST b t σc0 σm0 c2 m2 (flt 0 c q) q ∧ ¬ flt 0 c q = 0) :
    OUT b t σc0 σm0 k (d_X1_readBell c1) (j_X11_barracksClause_33 m1 (nI k) (nI q) (nI 1)) := by
  have hn := B.2.1.2.1
  have hs2 := (en_spec isW_m1 b t q).2.1 hqt
  rw [wrd_cg (e := 1) (e' := 20) (by decide +kernel)] at hw
  obtain ⟨w1, w2⟩ := wrd_end (by omega) hw
  rw [x11_33 (e := 20) (decide (k = 24) || decide (bl = 8)) (by omega) m31 (x11_full (mx := 8) (by omega) rfl hkk (by omega) B.2.2.2.1.2.1) (by unfold d_X11_barracksWord; rw [if_neg (by decide), if_pos nI_one])]
  unfold d_X1_readBell
  rw [B.1, ix_0 (by omega) (by omega), B.2.2.1.2.1]
  have many : ∀ x : Int32, (¬ x = 0 ∨ ¬ c1.1 1 0 2 = 0) → (decide (k = 24) || decide (bl = 8)) = true → OUT b t σc0 σm0 k (j_X1_readBell_20 c1 (nI bl) x) (if (decide (k = 24) || decide (bl = 8)) = true then d_X11_fails m1 4 (nI q) else d_X11_barracksPart (uI m1 11 0 31 (nI (q + zsN 20))) (nI 1)) := fun x hx hF => by
    obtain ⟨c2, m2, g1, g2, g3, g4⟩ := bad 4 (by decide) (by decide)
    rw [hF, if_pos rfl, g2]
    unfold j_X1_readBell_20
    rw [x1_many hx g1]
    simp only [Option.bind_some]
    rw [if_neg i10]
    exact ⟨c2, m2, _, q, rfl, rfl, g3, fun e => absurd e g4, fun _ => g4⟩
  by_cases hn12 : bl < 8
  · rw [if_pos (show nI bl < (8 : Int32) from nI_lt (b := 8) hn12 (by omega))]
    by_cases hk4 : k = 24
    · refine many 0 (Or.inr ?_) (by rw [decide_eq_true hk4]; rfl)
      rw [h2, decide_eq_true hk4]; decide
    · rw [decide_eq_false hk4, decide_eq_false (show ¬ bl = 8 by omega), if_neg (by decide)]
      rw [decide_eq_false hk4] at h2
      have g := good (q + zsN 20) (by rw [htk, w2]) (by omega)
      have B2 : BB c1 (uI m1 11 0 31 (nI (q + zsN 20))) n bl d := B.mv (fun _ _ _ _ => rfl) (fun k j hk => by rw [uI_1, if_neg (by omega)])
      obtain ⟨c2, m2, f2, p2, a1, a2, a3, a4⟩ := b_bell g B2 hn12 h2
      rw [nI_one]
      exact ⟨c2, m2, f2, p2, a1, a2, a3, fun e => ⟨_, _, _, a4 e⟩, fun hk => absurd hk hk4⟩
  · rw [if_neg (show ¬ nI bl < (8 : Int32) from nI_nlt (b := 8) (by omega) (by omega))]
    exact many 1 (Or.inl i10) (by rw [decide_eq_true (show bl = 8 by omega), Bool.or_true])
theorem w_duty (hkk : k ≤ 24) (B : BB c1 m1 n bl d) (h2 : c1.1 1 0 2 = b2i (decide (k = 24))) (m31 : m1.1 11 0 31 = nI q) (hqt : q ≤ t) (hw : wrd b t q 2 = true) (htk : c1.1 7 0 1 = nI (tkA b t q))
    (good : ∀ p', c1.1 7 0 1 = nI p' → p' ≤ t → ST b t σc0 σm0 c1 (uI m1 11 0 31 (nI p')) 0 p') (bad : ∀ c : Int32, 0 ≤ c.toInt → c.toInt ≤ 7 → ∃ c2 m2, d_X7_fail c1 c = some c2 ∧ d_X11_fails m1 c (nI q) = some m2 ∧ ST b t σc0 σm0 c2 m2 (flt 0 c q) q ∧ ¬ flt 0 c q = 0) :
    OUT b t σc0 σm0 k (d_X1_readDuty c1) (j_X11_barracksClause_33 m1 (nI k) (nI q) (nI 2)) := by
  have hn := B.2.1.2.2
  have hs2 := (en_spec isW_m1 b t q).2.1 hqt
  rw [wrd_cg (e := 2) (e' := 21) (by decide +kernel)] at hw
  obtain ⟨w1, w2⟩ := wrd_end (by omega) hw
  rw [x11_33 (e := 21) (decide (k = 24) || decide (d = 8)) (by omega) m31 (x11_full (mx := 8) (by omega) rfl hkk (by omega) B.2.2.2.1.2.2) (by unfold d_X11_barracksWord; rw [if_neg (by decide), if_neg (by decide), if_pos (show nI 2 = (2 : Int32) from rfl)])]
  unfold d_X1_readDuty
  rw [B.1, ix_0 (by omega) (by omega), B.2.2.1.2.2]
  have many : ∀ x : Int32, (¬ x = 0 ∨ ¬ c1.1 1 0 2 = 0) → (decide (k = 24) || decide (d = 8)) = true → OUT b t σc0 σm0 k (j_X1_readDuty_20 c1 (nI d) x) (if (decide (k = 24) || decide (d = 8)) = true then d_X11_fails m1 4 (nI q) else d_X11_barracksPart (uI m1 11 0 31 (nI (q + zsN 21))) (nI 2)) := fun x hx hF => by
    obtain ⟨c2, m2, g1, g2, g3, g4⟩ := bad 4 (by decide) (by decide)
    rw [hF, if_pos rfl, g2]
    unfold j_X1_readDuty_20
    rw [x1_many hx g1]
    simp only [Option.bind_some]
    rw [if_neg i10]
    exact ⟨c2, m2, _, q, rfl, rfl, g3, fun e => absurd e g4, fun _ => g4⟩
  by_cases hn12 : d < 8
  · rw [if_pos (show nI d < (8 : Int32) from nI_lt (b := 8) hn12 (by omega))]
    by_cases hk4 : k = 24
    · refine many 0 (Or.inr ?_) (by rw [decide_eq_true hk4]; rfl)
      rw [h2, decide_eq_true hk4]; decide
    · rw [decide_eq_false hk4, decide_eq_false (show ¬ d = 8 by omega), if_neg (by decide)]
      rw [decide_eq_false hk4] at h2
      have g := good (q + zsN 21) (by rw [htk, w2]) (by omega)
      have B2 : BB c1 (uI m1 11 0 31 (nI (q + zsN 21))) n bl d := B.mv (fun _ _ _ _ => rfl) (fun k j hk => by rw [uI_1, if_neg (by omega)])
      obtain ⟨c2, m2, f2, p2, a1, a2, a3, a4⟩ := b_duty g B2 hn12 h2
      rw [show nI 2 = (2 : Int32) from rfl]
      exact ⟨c2, m2, f2, p2, a1, a2, a3, fun e => ⟨_, _, _, a4 e⟩, fun hk => absurd hk hk4⟩
  · rw [if_neg (show ¬ nI d < (8 : Int32) from nI_nlt (b := 8) (by omega) (by omega))]
    exact many 1 (Or.inl i10) (by rw [decide_eq_true (show d = 8 by omega), Bool.or_true])
theorem w_watch (hkk : k ≤ 24) (B : BB c1 m1 n bl d) (h2 : c1.1 1 0 2 = b2i (decide (k = 24))) (m31 : m1.1 11 0 31 = nI q) (hqt : q ≤ t) (hw : wrd b t q 3 = true) (htk : c1.1 7 0 1 = nI (tkA b t q))
    (good : ∀ p', c1.1 7 0 1 = nI p' → p' ≤ t → ST b t σc0 σm0 c1 (uI m1 11 0 31 (nI p')) 0 p') (bad : ∀ c : Int32, 0 ≤ c.toInt → c.toInt ≤ 7 → ∃ c2 m2, d_X7_fail c1 c = some c2 ∧ d_X11_fails m1 c (nI q) = some m2 ∧ ST b t σc0 σm0 c2 m2 (flt 0 c q) q ∧ ¬ flt 0 c q = 0) :
    OUT b t σc0 σm0 k (d_X1_readWatch c1) (j_X11_barracksClause_33 m1 (nI k) (nI q) (nI 3)) := by
  have hs2 := (en_spec isW_m1 b t q).2.1 hqt
  rw [wrd_cg (e := 3) (e' := 22) (by decide +kernel)] at hw
  obtain ⟨w1, w2⟩ := wrd_end (by omega) hw
  obtain ⟨w, v1, v2⟩ := B.2.2.2.2.2.1
  rw [x11_33 (e := 22) (decide (k = 24) || w) (by omega) m31 (x11_full3 hkk w v2) (by unfold d_X11_barracksWord; rw [if_neg (by decide), if_neg (by decide), if_neg (by decide)])]
  by_cases hF : (decide (k = 24) || w) = true
  · obtain ⟨c2, m2, g1, g2, g3, g4⟩ := bad 4 (by decide) (by decide)
    rw [hF, if_pos rfl, g2]
    unfold d_X1_readWatch
    have hx : ¬ c1.1 1 0 3 = 0 ∨ ¬ c1.1 1 0 2 = 0 := by
      rw [Bool.or_eq_true] at hF
      rcases hF with hF | hF
      · right; rw [h2, hF]; decide
      · left; rw [v1, hF]; decide
    rw [x1_many hx g1]
    simp only [Option.bind_some]
    rw [if_neg i10]
    exact ⟨c2, m2, _, q, rfl, rfl, g3, fun e => absurd e g4, fun _ => g4⟩
  · rw [if_neg hF]
    rw [Bool.or_eq_true] at hF
    have hk4 : ¬ k = 24 := fun q => hF (Or.inl (decide_eq_true q))
    have hw0 : w = false := by
      cases w with
      | false => rfl
      | true => exact absurd (Or.inr rfl) hF
    rw [decide_eq_false hk4] at h2
    rw [hw0] at v1
    have g := good (q + zsN 22) (by rw [htk, w2]) (by omega)
    have B2 : BB c1 (uI m1 11 0 31 (nI (q + zsN 22))) n bl d := B.mv (fun _ _ _ _ => rfl) (fun k j hk => by rw [uI_1, if_neg (by omega)])
    obtain ⟨c2, m2, f2, p2, a1, a2, a3, a4⟩ := b_watch g B2 v1 h2
    rw [show nI 3 = (3 : Int32) from rfl]
    exact ⟨c2, m2, f2, p2, a1, a2, a3, fun e => ⟨_, _, _, a4 e⟩, fun hk => absurd hk hk4⟩
end
