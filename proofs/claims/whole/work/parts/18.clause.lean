/-! THE CLASS: a law's clause, a law -/
def cdAt (f g : Nat → Int32) (ren : Nat → Int32) : Nat → List qop → Prop
  | _, [] => True
  | i, q :: t => f i = ren q.1 ∧ (q.1 ≤ 1 → g i = q.2) ∧ cdAt f g ren (i + 1) t
theorem nI_one : nI 1 = 1 := by decide +kernel
theorem qren_0 : qren 0 = 70 := rfl
theorem qren_1 : qren 1 = 71 := rfl
theorem qren_9 : qren 9 = 30 := rfl
theorem qren_ne {op : Nat} (h : qbin op) : qren op ≠ 70 ∧ qren op ≠ 71 ∧ qren op ≠ 30 := by
  rcases h with rfl | rfl | rfl | rfl | rfl | rfl | rfl | rfl | rfl | rfl | rfl | rfl <;> decide
/-- one instruction of a clause that has its type -/
theorem qty_cons {op : Nat} {a : Int32} {t : List qop} {ts r : List Bool} (h : qty ((op, a) :: t) ts = some r) :
    (op = 0 ∧ qty t (false :: ts) = some r) ∨ (op = 1 ∧ 0 ≤ a.toInt ∧ a.toInt ≤ 9 ∧ qty t (false :: ts) = some r) ∨
    (op = 9 ∧ ∃ u, ts = true :: u ∧ qty t (true :: u) = some r) ∨
    (qbin op ∧ ∃ b b1 u, ts = b :: b :: u ∧ qty t (b1 :: u) = some r ∧ (b1 = true → (4 ≤ op ∧ op ≤ 8) ∨ ((op = 10 ∨ op = 11) ∧ b = true))) := by
  unfold qty at h
  by_cases h0 : op = 0
  · rw [if_pos h0] at h; exact Or.inl ⟨h0, h⟩
  rw [if_neg h0] at h
  by_cases h1 : op = 1
  · rw [if_pos h1] at h
    split at h
    · rename_i h2
      exact Or.inr (Or.inl ⟨h1, h2.1, h2.2, h⟩)
    · cases h
  rw [if_neg h1] at h
  by_cases h9 : op = 9
  · rw [if_pos h9] at h
    split at h
    · exact Or.inr (Or.inr (Or.inl ⟨h9, _, rfl, h⟩))
    · cases h
  rw [if_neg h9] at h
  refine Or.inr (Or.inr (Or.inr ?_))
  by_cases h10 : op = 10 ∨ op = 11
  · rw [if_pos h10] at h
    split at h
    · exact ⟨by unfold qbin; omega, true, true, _, rfl, h, fun _ => Or.inr ⟨h10, rfl⟩⟩
    · cases h
  rw [if_neg h10] at h
  by_cases h4 : 4 ≤ op ∧ op ≤ 8
  · rw [if_pos h4] at h
    split at h
    · exact ⟨by unfold qbin; omega, false, true, _, rfl, h, fun _ => Or.inl h4⟩
    · cases h
  rw [if_neg h4] at h
  by_cases h2 : op = 2 ∨ op = 3 ∨ op = 13 ∨ op = 14 ∨ op = 15
  · rw [if_pos h2] at h
    split at h
    · exact ⟨by unfold qbin; omega, false, false, _, rfl, h, fun e => by cases e⟩
    · cases h
  rw [if_neg h2] at h
  cases h
theorem qev_0 (v : Nat → Int64) (a : Int32) (t : List qop) (st : List Int64) : qev v ((0, a) :: t) st = qev v t (a.toInt64 :: st) := rfl
theorem qev_1 (v : Nat → Int64) (a : Int32) (t : List qop) (st : List Int64) : qev v ((1, a) :: t) st = qev v t (v a.toNatClampNeg :: st) := rfl
theorem qev_9 (v : Nat → Int64) (a : Int32) (t : List qop) (x : Int64) (st : List Int64) : qev v ((9, a) :: t) (x :: st) = qev v t ((1 - x) :: st) := rfl
theorem qev_b (v : Nat → Int64) {op : Nat} (h : qbin op) (a : Int32) (t : List qop) (y x : Int64) (st : List Int64) : qev v ((op, a) :: t) (y :: x :: st) = qev v t (qbop op x y :: st) := by
  rw [qev, if_neg (by unfold qbin at h; omega), if_neg (by unfold qbin at h; omega), if_neg (by unfold qbin at h; omega)]
theorem x4_clause_loop {σ : zH} {l s c ci e : Nat} (v : Nat → Int64) (hv : ∀ σ' : zH, σ'.1 = σ.1 → ∀ w, w < 10 → ∃ x, d_X8_valueOf σ' s (nI w) (nI c) = some (σ', x) ∧ x.toInt64 = v w)
    (hci : ci < 12) (he : σ.1 25 l (ci + 1) = nI e) (he4 : e ≤ 400) : ∀ (code : List qop) (f i : Nat) (st : List Int64) (ts : List Bool) (σ' : zH), σ'.1 = σ.1 → (∀ k i, k ≠ 28 → σ'.2 k i = σ.2 k i) →
      i + code.length = e → code.length < f → cdAt (σ.1 26 l) (σ.1 27 l) qren i code → stAt (σ'.2 28 l) st → tyOK st ts → qty code ts = some [true] → st.length + qps code ≤ 60 →
      zwp (k_X4_clauseHolds_11 j_X4_clauseHolds_185 f σ' l (nI ci) s (nI c) (nI st.length) (nI i)) (fun p => p.1.1 = σ.1 ∧ (∀ k i, k ≠ 28 → p.1.2 k i = σ.2 k i) ∧ p.2 = b2i (decide (qev v code st = some [1])))
  | [], f, i, st, ts, σ', h1, h2, hi, hf, hc, hst, hty, hq, hp => by
    obtain ⟨f, rfl⟩ : ∃ g, f = g + 1 := ⟨f - 1, by omega⟩
    simp only [List.length_nil, Nat.add_zero] at hi
    cases hq
    obtain ⟨x, r, rfl, hx, hr⟩ := tyOK_1 hty
    cases tyOK_0 hr
    rw [k_X4_clauseHolds_11, nI_1, ix_nI (by omega) (by omega), h1]
    simp only [Nat.add_zero]
    rw [he, if_neg (nI_nlt (by omega) (by omega))]
    unfold j_X4_clauseHolds_185
    rw [if_pos (show nI [x].length = 1 from nI_one)]
    have h0 : σ'.2 28 (l + 0) 0 = x := hst.1
    rw [h0]
    simp only [lg_cmp_eq]
    refine zwp_if (fun e => zwp_some.mpr ⟨h1, h2, ?_⟩) (fun e => zwp_some.mpr ⟨h1, h2, ?_⟩)
    · rw [e]; rfl
    · rw [(hx rfl).resolve_left e]; rfl
  | (op, a) :: t, f, i, st, ts, σ', h1, h2, hi, hf, hc, hst, hty, hq, hp => by
    obtain ⟨f, rfl⟩ : ∃ g, f = g + 1 := ⟨f - 1, by omega⟩
    simp only [List.length_cons] at hi hf
    obtain ⟨c1, c2, c3⟩ := hc
    dsimp only at c1 c2
    have IH := x4_clause_loop v hv hci he he4 t f (i + 1)
    rw [k_X4_clauseHolds_11, nI_1, ix_nI (by omega) (by omega), h1]
    simp only [Nat.add_zero]
    rw [he, if_pos (nI_lt (by omega) (by omega)), ix_nI (by omega) (by omega), c1]
    rcases qty_cons hq with ⟨rfl, hq⟩ | ⟨rfl, ha0, ha9, hq2⟩ | ⟨rfl, u, rfl, hq⟩ | ⟨hb, b, b1, u, rfl, hq, hbb⟩
    · have hp' : st.length + (1 + qps t) ≤ 60 := hp
      rw [qren_0, if_pos rfl]
      unfold j_X4_clauseHolds_47
      rw [if_pos (show nI st.length < (60 : Int32) from nI_lt (b := 60) (by omega) (by omega)), if_pos rfl, ix_nI (by omega) (by omega)]
      unfold j_X4_clauseHolds_93
      rw [ix_nI (by omega) (by omega), nI_1, nI_1, h1]
      simp only [Nat.add_zero]
      rw [c2 (by omega), qev_0]
      refine IH (a.toInt64 :: st) (false :: ts) _ h1 (fun k i hk => ?_) (by omega) (by omega) c3 ⟨?_, ?_⟩ ⟨fun e => (by cases e), hty⟩ hq (by simp only [List.length_cons]; omega)
      · rw [← h2 k i hk]
        exact funext fun j => by rw [uL_2, if_neg (fun q => hk q.1)]
      · rw [uL_2, if_pos ⟨rfl, rfl, rfl⟩]
      · exact stAt_cong hst (fun j hj => by rw [uL_2, if_neg (by omega)])
    · have hp' : st.length + (1 + qps t) ≤ 60 := hp
      rw [qren_1, if_neg (by decide), if_pos rfl]
      unfold j_X4_clauseHolds_47
      rw [if_pos (show nI st.length < (60 : Int32) from nI_lt (b := 60) (by omega) (by omega)), if_neg (by decide), ix_nI (by omega) (by omega), h1]
      simp only [Nat.add_zero]
      rw [c2 (by omega)]
      obtain ⟨w, hw, rfl⟩ : ∃ w : Nat, w < 10 ∧ a = nI w := by
        obtain ⟨w, hw, e⟩ := nI_of (x := a) (by rw [fa_lt]; simpa using ha0)
        rw [e, nI_toInt hw] at ha9
        exact ⟨w, by omega, e⟩
      obtain ⟨x, hx, hxv⟩ := hv σ' h1 w hw
      rw [hx]
      simp only [Option.bind_some]
      unfold j_X4_clauseHolds_93
      rw [ix_nI (by omega) (by omega), nI_1, nI_1, qev_1, nI_clamp (by omega), ← hxv]
      refine IH (x.toInt64 :: st) (false :: ts) _ h1 (fun k i hk => ?_) (by omega) (by omega) c3 ⟨?_, ?_⟩ ⟨fun e => (by cases e), hty⟩ hq2 (by simp only [List.length_cons]; omega)
      · rw [← h2 k i hk]
        exact funext fun j => by rw [uL_2, if_neg (fun q => hk q.1)]
      · rw [uL_2, if_pos ⟨rfl, rfl, rfl⟩]
      · exact stAt_cong hst (fun j hj => by rw [uL_2, if_neg (by omega)])
    · have hp' : st.length + (0 + qps t) ≤ 60 := hp
      obtain ⟨x, r, rfl, hx, hr⟩ := tyOK_1 hty
      simp only [List.length_cons] at hp' ⊢
      rw [qren_9, if_neg (by decide), if_neg (by decide), if_pos rfl, if_neg (show ¬ nI (r.length + 1) < (1 : Int32) from nI_nlt (b := 1) (by omega) (by omega)), nI_pred, ix_nI (by omega) (by omega), ix_nI (by omega) (by omega), nI_1, qev_9]
      have h0 : σ'.2 28 l r.length = x := hst.1
      simp only [zlet, h0]
      refine IH ((1 - x) :: r) (true :: u) _ h1 (fun k i hk => ?_) (by omega) (by omega) c3 ⟨?_, ?_⟩ ⟨fun _ => ?_, hr⟩ hq (by simp only [List.length_cons]; omega)
      · rw [← h2 k i hk]
        exact funext fun j => by rw [uL_2, if_neg (fun q => hk q.1)]
      · rw [uL_2, if_pos ⟨rfl, rfl, rfl⟩]
      · exact stAt_cong hst.2 (fun j hj => by rw [uL_2, if_neg (by omega)])
      · rcases hx rfl with rfl | rfl
        · exact Or.inr (by decide)
        · exact Or.inl (by decide)
    · have hp' : st.length + ((if op ≤ 1 then 1 else 0) + qps t) ≤ 60 := hp
      rw [if_neg (show ¬ op ≤ 1 by unfold qbin at hb; omega)] at hp'
      obtain ⟨y, x, r, rfl, hy, hx, hr⟩ := tyOK_2 hty
      simp only [List.length_cons] at hp' ⊢
      have hn := qren_ne hb
      have e1 : nI (r.length + 1 + 1) + (-1) = nI (r.length + 1) := pk_m1 _
      rw [if_neg hn.1, if_neg hn.2.1, if_neg hn.2.2, if_neg (show ¬ nI (r.length + 1 + 1) < (2 : Int32) from nI_nlt (b := 2) (by omega) (by omega)), e1, nI_pred, ix_nI (by omega) (by omega), ix_nI (by omega) (by omega), nI_1, qev_b v hb]
      have h0 : σ'.2 28 l (r.length + 1) = y := hst.1
      have h3 : σ'.2 28 l r.length = x := hst.2.1
      rw [h0, h3, x4_combine σ' hb]
      simp only [Option.bind_some]
      rw [ix_nI (by omega) (by omega)]
      refine IH (qbop op x y :: r) (b1 :: u) _ h1 (fun k i hk => ?_) (by omega) (by omega) c3 ⟨?_, ?_⟩ ⟨fun e => ?_, hr⟩ hq (by simp only [List.length_cons]; omega)
      · rw [← h2 k i hk]
        exact funext fun j => by rw [uL_2, if_neg (fun q => hk q.1)]
      · rw [uL_2, if_pos ⟨rfl, rfl, rfl⟩]
      · exact stAt_cong hst.2.2 (fun j hj => by rw [uL_2, if_neg (by omega)])
      · rcases hbb e with h | ⟨h, rfl⟩
        · exact qbop_01 h x y
        · exact qbop_ao h (hx rfl) (hy rfl)
