/-! THE CLASS: values, a law -/
theorem rS.mv1 {W : Int32} {σ σ' : zH} {s : Nat} {E : qE} {D : qD} (h : rS W σ s E D) (e : σ'.1 = σ.1) : rS W σ' s E D := by
  unfold rS at h ⊢
  rw [e]; exact h
theorem rC.mv1 {σ σ' : zH} {s : Nat} {E : qE} (h : rC σ s E) (e : σ'.1 = σ.1) : rC σ' s E := h.mv (fun k _ => by rw [e])
theorem x8_valueOf {W : Int32} {σ : zH} {s c : Nat} {E : qE} {D : qD} (hC : rC σ (s + 1) E) (hS : rS W σ s E D) (hb : σ.1 8 s 16 = qeB E (qrem (D 7 0))) (hc : c < qeN E) (w : Nat) (hw : w < 10) :
    ∃ x, d_X8_valueOf σ s (nI w) (nI c) = some (σ, x) ∧ x.toInt64 = qval E D c w := by
  have hn := hC.1
  have hr : ∀ r, r < 4 → σ.1 (12 + r) (s + 1) c = qeR E r c := fun r hr => hC.2.2.1 r c hr hc
  have hd : ∀ r, r < 7 → r ≠ 0 → r ≠ 3 → σ.1 (30 + r) s c = D r c := fun r h1 h2 h3 => hS.2.2.2.2.2.2.1 r c h1 h2 h3 hc
  have h1 := hS.1
  have h5 := hS.2.2.2.2.1
  have hix : ∀ f : Nat → Option (zH × Int32), ix (nI c) 12 f = f c := fun f => ix_nI (by omega) (by omega)
  unfold d_X8_valueOf
  have : w = 0 ∨ w = 1 ∨ w = 2 ∨ w = 3 ∨ w = 4 ∨ w = 5 ∨ w = 6 ∨ w = 7 ∨ w = 8 ∨ w = 9 := by omega
  rcases this with rfl | rfl | rfl | rfl | rfl | rfl | rfl | rfl | rfl | rfl
  · exact ⟨_, if_pos rfl, by rw [h1]; rfl⟩
  · exact ⟨_, (if_neg (by decide)).trans (if_pos rfl), by rw [h1]; rfl⟩
  · refine ⟨_, (if_neg (by decide)).trans ((if_neg (by decide)).trans ((if_pos rfl).trans (hix _))), ?_⟩
    rw [Nat.add_zero]; exact congrArg _ (hd 1 (by omega) (by omega) (by omega))
  · refine ⟨_, (if_neg (by decide)).trans ((if_neg (by decide)).trans ((if_neg (by decide)).trans ((if_pos rfl).trans (hix _)))), ?_⟩
    rw [Nat.add_zero]; exact congrArg _ (hd 2 (by omega) (by omega) (by omega))
  · exact ⟨_, (if_neg (by decide)).trans ((if_neg (by decide)).trans ((if_neg (by decide)).trans ((if_neg (by decide)).trans (if_pos rfl)))), rfl⟩
  · refine ⟨_, (if_neg (by decide)).trans ((if_neg (by decide)).trans ((if_neg (by decide)).trans ((if_neg (by decide)).trans ((if_neg (by decide)).trans ((if_pos rfl).trans (hix _)))))), ?_⟩
    rw [Nat.add_zero]; exact congrArg _ (hr 0 (by omega))
  · refine ⟨_, (if_neg (by decide)).trans ((if_neg (by decide)).trans ((if_neg (by decide)).trans ((if_neg (by decide)).trans ((if_neg (by decide)).trans ((if_neg (by decide)).trans ((if_pos rfl).trans (hix _))))))), ?_⟩
    rw [Nat.add_zero]; exact congrArg _ (hr 1 (by omega))
  · exact ⟨_, (if_neg (by decide)).trans ((if_neg (by decide)).trans ((if_neg (by decide)).trans ((if_neg (by decide)).trans ((if_neg (by decide)).trans ((if_neg (by decide)).trans ((if_neg (by decide)).trans (if_pos rfl))))))), by rw [h5]; rfl⟩
  · have hgo : ∀ z y : Option (zH × Int32), (if nI 8 = (8 : Int32) then z else y) = z := fun z y => if_pos rfl
    obtain ⟨b, hb8, hb5, hbB, hbT⟩ := hC.2.2.2.1
    have key : ∃ x, (if σ.1 8 s 16 = (-1 : Int32) then some (σ, (0 : Int32)) else ix (σ.1 8 s 16) 8 fun j5 => some (σ, σ.1 17 ((s + 1) + 0) j5)) = some (σ, x) ∧ x = qeT E (qrem (D 7 0)) := by
      rw [hb, hbT]
      rcases qfst_cases (fun i => decide (σ.1 16 (s + 1) i = qrem (D 7 0))) b with ⟨-, e⟩ | ⟨i, hi, -, -, e⟩
      · rw [← hbB] at e
        rw [if_pos e, if_pos e]
        exact ⟨_, rfl, rfl⟩
      · rw [← hbB] at e
        rw [e, if_neg (fun h => by
          have := congrArg Int32.toInt h
          rw [nI_toInt (by omega)] at this
          have h9 : (-1 : Int32).toInt = -1 := by decide
          omega), ix_nI (by omega) (by omega), if_neg (fun h => by
          have := congrArg Int32.toInt h
          rw [nI_toInt (by omega)] at this
          have h9 : (-1 : Int32).toInt = -1 := by decide
          omega), nI_clamp (by omega)]
        exact ⟨_, rfl, rfl⟩
    obtain ⟨x, h9, hx⟩ := key
    refine ⟨x, (if_neg (by decide)).trans ((if_neg (by decide)).trans ((if_neg (by decide)).trans ((if_neg (by decide)).trans ((if_neg (by decide)).trans ((if_neg (by decide)).trans ((if_neg (by decide)).trans ((if_neg (by decide)).trans ((if_pos rfl).trans h9)))))))), ?_⟩
    rw [hx]; rfl
  · refine ⟨_, (if_neg (by decide)).trans ((if_neg (by decide)).trans ((if_neg (by decide)).trans ((if_neg (by decide)).trans ((if_neg (by decide)).trans ((if_neg (by decide)).trans ((if_neg (by decide)).trans ((if_neg (by decide)).trans ((if_neg (by decide)).trans ((if_pos rfl).trans (hix _)))))))))), ?_⟩
    rw [Nat.add_zero]; exact congrArg _ (hr 3 (by omega))
/-- a Law, as a quarter sees it -/
def rL (σ : zH) (l : Nat) (cl : List (Bool × List qop)) : Prop := cl.length ≤ 12 ∧ σ.1 4 l 0 = nI cl.length ∧ ∀ i k code, cl[i]? = some (k, code) → σ.1 24 l i = b2i k ∧ qty code [] = some [true] ∧ qps code ≤ 60 ∧
  ∃ b, b + code.length ≤ 400 ∧ σ.1 25 l i = nI b ∧ σ.1 25 l (i + 1) = nI (b + code.length) ∧ cdAt (σ.1 26 l) (σ.1 27 l) qren b code
theorem rL.mv {σ σ' : zH} {l : Nat} {cl : List (Bool × List qop)} (h : rL σ l cl) (hs : ∀ k, k = 4 ∨ (24 ≤ k ∧ k ≤ 27) → σ'.1 k l = σ.1 k l) : rL σ' l cl := by
  unfold rL at h ⊢
  rw [hs 4 (Or.inl rfl), hs 24 (by omega), hs 25 (by omega), hs 26 (by omega), hs 27 (by omega)]
  exact h
theorem x4_clauseHolds {σ : zH} {l s c i : Nat} {cl : List (Bool × List qop)} (v : Nat → Int64) (hv : ∀ σ' : zH, σ'.1 = σ.1 → ∀ w, w < 10 → ∃ x, d_X8_valueOf σ' s (nI w) (nI c) = some (σ', x) ∧ x.toInt64 = v w)
    (hL : rL σ l cl) {k : Bool} {code : List qop} (hi : cl[i]? = some (k, code)) {σ' : zH} (h1 : σ'.1 = σ.1) (h2 : ∀ k i, k ≠ 28 → σ'.2 k i = σ.2 k i) :
    zwp (d_X4_clauseHolds σ' l (nI i) s (nI c)) (fun p => p.1.1 = σ.1 ∧ (∀ k i, k ≠ 28 → p.1.2 k i = σ.2 k i) ∧ p.2 = b2i (qcl v code)) := by
  have hl := (List.getElem?_eq_some_iff.mp hi).1
  obtain ⟨c1, c2, c3⟩ := hL
  obtain ⟨-, d2, d3, b, d4, d5, d6, d7⟩ := c3 i k code hi
  unfold d_X4_clauseHolds
  rw [ix_nI (by omega) (by omega), h1, Nat.add_zero, d5]
  exact x4_clause_loop v hv (by omega) d6 d4 code zN b [] [] σ' h1 h2 rfl (by rw [zN_eq]; omega) d7 trivial trivial d2 (by simpa using d3)
theorem x4_holds {σ : zH} {l s c : Nat} {cl : List (Bool × List qop)} (v : Nat → Int64) (hv : ∀ σ' : zH, σ'.1 = σ.1 → ∀ w, w < 10 → ∃ x, d_X8_valueOf σ' s (nI w) (nI c) = some (σ', x) ∧ x.toInt64 = v w)
    (hL : rL σ l cl) (sl : Bool) : zwp (d_X4_holds σ l (b2i sl) s (nI c)) (fun p => p.1.1 = σ.1 ∧ (∀ k i, k ≠ 28 → p.1.2 k i = σ.2 k i) ∧ p.2 = b2i (qlaw cl sl v)) := by
  unfold d_X4_holds qlaw
  rw [nI_c0]
  refine zwp_for (fun f i (σ' : zH) => k_X4_holds_3 f σ' l (b2i sl) s (nI c) (nI i)) (fun i σ' => σ'.1 = σ.1 ∧ (∀ k i, k ≠ 28 → σ'.2 k i = σ.2 k i) ∧ qany (qlawp cl sl v) i = false) _ 0 cl.length (by have := hL.1; omega) (by omega) ?_ ?_ σ ⟨rfl, fun _ _ _ => rfl, rfl⟩
  · rintro f i σ' hi ⟨h1, h2, h3⟩ IH
    have h12 := hL.1
    obtain ⟨k, code, hcd⟩ : ∃ k code, cl[i]? = some (k, code) := ⟨_, _, List.getElem?_eq_getElem hi⟩
    have hp : qlawp cl sl v i = (k == sl && qcl v code) := by unfold qlawp; rw [hcd]
    rw [k_X4_holds_3, h1, hL.2.1, if_pos (nI_lt hi (by omega)), ix_nI (by omega) (by omega), Nat.add_zero, (hL.2.2 i k code hcd).1]
    refine zwp_if (fun e => ?_) (fun e => ?_)
    · have hk : (k == sl) = true := by cases k <;> cases sl <;> first | rfl | (exact absurd e (by decide))
      refine zwp_to (x4_clauseHolds v hv hL hcd h1 h2) (fun p hp2 => ?_)
      obtain ⟨q1, q2, q3⟩ := hp2
      rw [q3, nI_1]
      refine zwp_if (fun e2 => ?_) (fun e2 => ?_)
      · rw [b2i_0] at e2
        exact IH _ ⟨q1, q2, by rw [qany, h3, hp, e2, Bool.and_false]; rfl⟩
      · rw [b2i_0, Bool.not_eq_false] at e2
        exact zwp_some.mpr ⟨q1, q2, by rw [qany_of hi (by rw [hp, hk, e2]; rfl)]; rfl⟩
    · have hk : (k == sl) = false := by cases k <;> cases sl <;> first | rfl | (exact absurd rfl e)
      rw [nI_1]
      exact IH _ ⟨h1, h2, by rw [qany, h3, hp, hk]; rfl⟩
  · rintro f σ' ⟨h1, h2, h3⟩
    rw [k_X4_holds_3, h1, hL.2.1, if_neg (nI_nlt (Nat.le_refl _) (by have := hL.1; omega))]
    exact zwp_some.mpr ⟨h1, h2, by rw [h3]; rfl⟩
