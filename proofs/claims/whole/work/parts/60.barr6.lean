/-! CALLS: barracks, each word read -/
theorem x11_full {m1 : zH} {k x n mx : Nat} (hx : x < 3) (hmx : mx = if x = 0 then 12 else 8) (hk : k ≤ 24) (hn : n ≤ 12) (h : m1.1 52 0 x = nI n) : d_X11_isFull m1 (nI x) (nI k) = some (m1, b2i (decide (k = 24) || decide (n = mx))) := by
  unfold d_X11_isFull j_X11_isFull_48
  by_cases hk4 : k = 24
  · rw [if_pos (show nI k = (24 : Int32) by rw [hk4]; rfl), decide_eq_true hk4]; rfl
  · rw [if_neg (show ¬ nI k = (24 : Int32) from fun w => hk4 ((nI_eq (a := k) (b := 24) (by omega) (by omega)).mp w)), decide_eq_false hk4, if_neg (show ¬ nI x = (3 : Int32) from fun w => by have := (nI_eq (a := x) (b := 3) (by omega) (by omega)).mp w; omega), ix_nI (by omega) (by omega), h]
    have e : ∀ mx : Nat, mx ≤ 12 → (if nI n = nI mx then some (m1, (1 : Int32)) else some (m1, 0)) = some (m1, b2i (decide (n = mx))) := fun mx hm => by
      by_cases q : n = mx
      · rw [if_pos (by rw [q]), decide_eq_true q]; rfl
      · rw [if_neg (fun w => q ((nI_eq (by omega) (by omega)).mp w)), decide_eq_false q]; rfl
    rw [Bool.false_or]
    have : x = 0 ∨ x = 1 ∨ x = 2 := by omega
    rcases this with rfl | rfl | rfl
    · rw [if_pos nI_0, hmx]; exact e 12 (by omega)
    · rw [if_neg (by decide), if_pos nI_one, hmx]; exact e 8 (by omega)
    · rw [if_neg (by decide), if_neg (by decide), hmx]; exact e 8 (by omega)
theorem x11_full3 {m1 : zH} {k : Nat} (hk : k ≤ 24) (w : Bool) (h : m1.1 11 0 40 = b2i w) : d_X11_isFull m1 (nI 3) (nI k) = some (m1, b2i (decide (k = 24) || w)) := by
  unfold d_X11_isFull
  by_cases hk4 : k = 24
  · rw [if_pos (show nI k = (24 : Int32) by rw [hk4]; rfl), decide_eq_true hk4]; rfl
  · rw [if_neg (show ¬ nI k = (24 : Int32) from fun w => hk4 ((nI_eq (a := k) (b := 24) (by omega) (by omega)).mp w)), decide_eq_false hk4, if_pos (show nI 3 = (3 : Int32) from rfl), h, Bool.false_or]
    cases w <;> rfl
section
variable {b : Nat → Int32} {t : Nat} {σc0 σm0 c1 m1 : zH} {q k n bl d : Nat}
theorem w_company (hkk : k ≤ 24) (B : BB c1 m1 n bl d) (h2 : c1.1 1 0 2 = b2i (decide (k = 24))) (m31 : m1.1 11 0 31 = nI q) (hqt : q ≤ t) (hw : wrd b t q 0 = true) (htk : c1.1 7 0 1 = nI (tkA b t q))
    (good : ∀ p', c1.1 7 0 1 = nI p' → p' ≤ t → ST b t σc0 σm0 c1 (uI m1 11 0 31 (nI p')) 0 p') (bad : ∀ c : Int32, 0 ≤ c.toInt → c.toInt ≤ 7 → ∃ c2 m2, d_X7_fail c1 c = some c2 ∧ d_X11_fails m1 c (nI q) = some m2 ∧ ST b t σc0 σm0 c2 m2 (flt 0 c q) q ∧ ¬ flt 0 c q = 0) :
    OUT b t σc0 σm0 k (d_X1_readCompany c1) (j_X11_barracksClause_33 m1 (nI k) (nI q) (nI 0)) := by
  have hn := B.2.1.1
  have hs2 := (en_spec isW_m1 b t q).2.1 hqt
  rw [wrd_cg (e := 0) (e' := 19) (by decide +kernel)] at hw
  obtain ⟨w1, w2⟩ := wrd_end (by omega) hw
  rw [x11_33 (e := 19) (decide (k = 24) || decide (n = 12)) (by omega) m31 (x11_full (mx := 12) (by omega) rfl hkk hn B.2.2.2.1.1) (by unfold d_X11_barracksWord; rw [if_pos nI_0])]
  unfold d_X1_readCompany
  rw [B.1, ix_0 (by omega) (by omega), B.2.2.1.1]
  have many : ∀ x : Int32, (¬ x = 0 ∨ ¬ c1.1 1 0 2 = 0) → (decide (k = 24) || decide (n = 12)) = true → OUT b t σc0 σm0 k (j_X1_readCompany_20 c1 (nI n) x) (if (decide (k = 24) || decide (n = 12)) = true then d_X11_fails m1 4 (nI q) else d_X11_barracksPart (uI m1 11 0 31 (nI (q + zsN 19))) (nI 0)) := fun x hx hF => by
    obtain ⟨c2, m2, g1, g2, g3, g4⟩ := bad 4 (by decide) (by decide)
    rw [hF, if_pos rfl, g2]
    unfold j_X1_readCompany_20
    rw [x1_many hx g1]
    simp only [Option.bind_some]
    rw [if_neg i10]
    exact ⟨c2, m2, _, q, rfl, rfl, g3, fun e => absurd e g4, fun _ => g4⟩
  by_cases hn12 : n < 12
  · rw [if_pos (show nI n < (12 : Int32) from nI_lt (b := 12) hn12 (by omega))]
    by_cases hk4 : k = 24
    · refine many 0 (Or.inr ?_) (by rw [decide_eq_true hk4]; rfl)
      rw [h2, decide_eq_true hk4]; decide
    · rw [decide_eq_false hk4, decide_eq_false (show ¬ n = 12 by omega), if_neg (by decide)]
      rw [decide_eq_false hk4] at h2
      have g := good (q + zsN 19) (by rw [htk, w2]) (by omega)
      have B2 : BB c1 (uI m1 11 0 31 (nI (q + zsN 19))) n bl d := B.mv (fun _ _ _ _ => rfl) (fun k j hk => by rw [uI_1, if_neg (by omega)])
      obtain ⟨c2, m2, f2, p2, a1, a2, a3, a4⟩ := b_company g B2 hn12 h2
      rw [nI_0]
      exact ⟨c2, m2, f2, p2, a1, a2, a3, fun e => ⟨_, _, _, a4 e⟩, fun hk => absurd hk hk4⟩
  · rw [if_neg (show ¬ nI n < (12 : Int32) from nI_nlt (b := 12) (by omega) (by omega))]
    exact many 1 (Or.inl i10) (by rw [decide_eq_true (show n = 12 by omega), Bool.or_true])
end
