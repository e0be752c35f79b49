/-! THE REFERENCE: laws -/
/-- a law of the reference's slot r -/
def rML (σ : zH) (r : Nat) (cl : List (Bool × List qop)) : Prop := r < 6 ∧ cl.length ≤ 12 ∧ σ.1 73 0 r = nI cl.length ∧ ∀ i k code, cl[i]? = some (k, code) → σ.1 74 0 (12 * r + i) = b2i (!k) ∧ qty code [] = some [true] ∧ qps code ≤ 60 ∧
  ∃ b, b + code.length ≤ 300 ∧ σ.1 75 0 (12 * r + i) = nI b ∧ σ.1 76 0 (12 * r + i) = nI (b + code.length) ∧ cdAt (fun j => σ.1 71 0 (300 * r + j)) (fun j => σ.1 72 0 (300 * r + j)) nI b code
theorem rML.mv {σ σ' : zH} {r : Nat} {cl : List (Bool × List qop)} (h : rML σ r cl) (hs : ∀ k, (71 ≤ k ∧ k ≤ 76) → σ'.1 k 0 = σ.1 k 0) : rML σ' r cl := by
  unfold rML at h ⊢
  rw [hs 71 (by omega), hs 72 (by omega), hs 73 (by omega), hs 74 (by omega), hs 75 (by omega), hs 76 (by omega)]
  exact h
theorem x11_answer_loop {σ : zH} {r e : Nat} (v : Nat → Int64) (hr : r < 6) (he4 : e ≤ 300) (hv : ∀ w, w < 10 → σ.2 78 0 w = v w) : ∀ (code : List qop) (f i : Nat) (st : List Int64) (ts : List Bool) (σ' : zH), σ'.1 = σ.1 → (∀ k i, k ≠ 79 → σ'.2 k i = σ.2 k i) →
      i + code.length = e → code.length < f → cdAt (fun j => σ.1 71 0 (300 * r + j)) (fun j => σ.1 72 0 (300 * r + j)) nI i code → stAt (σ'.2 79 0) st → tyOK st ts → qty code ts = some [true] → st.length + qps code ≤ 60 →
      zwp (k_X11_answer_6 f σ' (nI r) (nI e) (nI st.length) (nI i)) (fun p => p.1.1 = σ.1 ∧ (∀ k i, k ≠ 79 → p.1.2 k i = σ.2 k i) ∧ (decide (p.2 = 1) = decide (qev v code st = some [1])))
  | [], f, i, st, ts, σ', h1, h2, hi, hf, hc, hst, hty, hq, hp => by
    obtain ⟨f, rfl⟩ : ∃ g, f = g + 1 := ⟨f - 1, by omega⟩
    simp only [List.length_nil, Nat.add_zero] at hi
    cases hq
    obtain ⟨x, u, rfl, hx, hu⟩ := tyOK_1 hty
    cases tyOK_0 hu
    rw [k_X11_answer_6, if_neg (nI_nlt (by omega) (by omega))]
    have h0 : σ'.2 79 0 0 = x := hst.1
    refine zwp_some.mpr ⟨h1, h2, ?_⟩
    rw [h0, qev]
    by_cases e : x = 1
    · rw [e]; rfl
    · rw [decide_eq_false e, decide_eq_false (fun q => e (by cases q; rfl))]
  | (op, a) :: t, f, i, st, ts, σ', h1, h2, hi, hf, hc, hst, hty, hq, hp => by
    obtain ⟨f, rfl⟩ : ∃ g, f = g + 1 := ⟨f - 1, by omega⟩
    simp only [List.length_cons] at hi hf
    obtain ⟨c1, c2, c3⟩ := hc
    dsimp only at c1 c2
    have IH := x11_answer_loop v hr he4 hv t f (i + 1)
    have e300 : (300 : Int32) * nI r + nI i = nI (300 * r + i) := by rw [← nI_add, ← pk_mul]; rfl
    rw [k_X11_answer_6, if_pos (nI_lt (by omega) (by omega)), e300, ix_nI (by omega) (by omega), ix_nI (by omega) (by omega), h1, c1]
    rcases qty_cons hq with ⟨rfl, hq2⟩ | ⟨rfl, ha0, ha9, hq2⟩ | ⟨rfl, u, rfl, hq2⟩ | ⟨hb, b, b1, u, rfl, hq2, hbb⟩
    · have hp' : st.length + (1 + qps t) ≤ 60 := hp
      rw [if_pos nI_0]
      unfold j_X11_answer_53
      rw [if_pos nI_0]
      unfold j_X11_answer_77
      rw [ix_nI (by omega) (by omega), nI_1, nI_1]
      rw [c2 (by omega), qev_0]
      refine IH (a.toInt64 :: st) (false :: ts) _ h1 (fun k i hk => ?_) (by omega) (by omega) c3 ⟨?_, ?_⟩ ⟨fun e => (by cases e), hty⟩ hq2 (by simp only [List.length_cons]; omega)
      · rw [← h2 k i hk]
        exact funext fun j => by rw [uL_2, if_neg (fun q => hk q.1)]
      · rw [uL_2, if_pos ⟨rfl, rfl, rfl⟩]
      · exact stAt_cong hst (fun j hj => by rw [uL_2, if_neg (by omega)])
    · have hp' : st.length + (1 + qps t) ≤ 60 := hp
      rw [if_neg (by decide), if_pos nI_one]
      unfold j_X11_answer_53
      rw [if_neg (by decide), c2 (by omega)]
      obtain ⟨w, hw, rfl⟩ : ∃ w : Nat, w < 10 ∧ a = nI w := by
        obtain ⟨w, hw, e⟩ := nI_of (x := a) (by rw [fa_lt]; simpa using ha0)
        rw [e, nI_toInt hw] at ha9
        exact ⟨w, by omega, e⟩
      rw [ix_nI (by omega) (by omega)]
      unfold j_X11_answer_77
      have hvw : σ'.2 78 0 w = v w := by rw [h2 78 0 (by omega)]; exact hv w hw
      rw [ix_nI (by omega) (by omega), nI_1, nI_1, qev_1, nI_clamp (by omega), hvw]
      refine IH (v w :: st) (false :: ts) _ h1 (fun k i hk => ?_) (by omega) (by omega) c3 ⟨?_, ?_⟩ ⟨fun e => (by cases e), hty⟩ hq2 (by simp only [List.length_cons]; omega)
      · rw [← h2 k i hk]
        exact funext fun j => by rw [uL_2, if_neg (fun q => hk q.1)]
      · rw [uL_2, if_pos ⟨rfl, rfl, rfl⟩]
      · exact stAt_cong hst (fun j hj => by rw [uL_2, if_neg (by omega)])
    · have hp' : st.length + (0 + qps t) ≤ 60 := hp
      obtain ⟨x, u', rfl, hx, hu⟩ := tyOK_1 hty
      simp only [List.length_cons] at hp' ⊢
      rw [if_neg (by decide), if_neg (by decide), if_pos (show nI 9 = 9 from rfl), nI_pred, ix_nI (by omega) (by omega), ix_nI (by omega) (by omega), nI_1, qev_9]
      have h0 : σ'.2 79 0 u'.length = x := hst.1
      simp only [zlet, h0]
      refine IH ((1 - x) :: u') (true :: u) _ h1 (fun k i hk => ?_) (by omega) (by omega) c3 ⟨?_, ?_⟩ ⟨fun _ => ?_, hu⟩ hq2 (by simp only [List.length_cons]; omega)
      · rw [← h2 k i hk]
        exact funext fun j => by rw [uL_2, if_neg (fun q => hk q.1)]
      · rw [uL_2, if_pos ⟨rfl, rfl, rfl⟩]
      · exact stAt_cong hst.2 (fun j hj => by rw [uL_2, if_neg (by omega)])
      · rcases hx rfl with rfl | rfl
        · exact Or.inr (by decide)
        · exact Or.inl (by decide)
    · have hp' : st.length + ((if op ≤ 1 then 1 else 0) + qps t) ≤ 60 := hp
      rw [if_neg (show ¬ op ≤ 1 by unfold qbin at hb; omega)] at hp'
      obtain ⟨y, x, u', rfl, hy, hx, hu⟩ := tyOK_2 hty
      simp only [List.length_cons] at hp' ⊢
      have e1 : nI (u'.length + 1 + 1) + (-1) = nI (u'.length + 1) := pk_m1 _
      have hop : ∀ k, k < 2 ∨ k = 9 → nI op ≠ nI k := fun k hk h => by
        unfold qbin at hb
        rw [nI_eq (by omega) (by omega)] at h
        omega
      rw [if_neg (fun h => hop 0 (by omega) (h.trans nI_0.symm)), if_neg (fun h => hop 1 (by omega) (h.trans nI_one.symm)), if_neg (show ¬ nI op = (9 : Int32) from fun h => hop 9 (by omega) h), e1, nI_pred, ix_nI (by omega) (by omega), ix_nI (by omega) (by omega), nI_1, qev_b v hb]
      have h0 : σ'.2 79 0 (u'.length + 1) = y := hst.1
      have h3 : σ'.2 79 0 u'.length = x := hst.2.1
      rw [h0, h3, x11_both σ' hb]
      simp only [Option.bind_some]
      rw [ix_nI (by omega) (by omega)]
      refine IH (qbop op x y :: u') (b1 :: u) _ h1 (fun k i hk => ?_) (by omega) (by omega) c3 ⟨?_, ?_⟩ ⟨fun e => ?_, hu⟩ hq2 (by simp only [List.length_cons]; omega)
      · rw [← h2 k i hk]
        exact funext fun j => by rw [uL_2, if_neg (fun q => hk q.1)]
      · rw [uL_2, if_pos ⟨rfl, rfl, rfl⟩]
      · exact stAt_cong hst.2.2 (fun j hj => by rw [uL_2, if_neg (by omega)])
      · rcases hbb e with h | ⟨h, rfl⟩
        · exact qbop_01 h x y
        · exact qbop_ao h (hx rfl) (hy rfl)
theorem rMQ.mv2 {σ0 : zH} {W : Int32} {E : qE} {D : qD} {σ σ' : zH} (h : rMQ σ0 W E D σ) (e1 : σ'.1 = σ.1) (e2 : ∀ k i, k ≠ 78 → k ≠ 79 → σ'.2 k i = σ.2 k i) : rMQ σ0 W E D σ' := by
  obtain ⟨hz, hS, hO, hT, hG⟩ := h
  refine ⟨fun k i hf => ⟨by rw [e1]; exact (hz k i hf).1, ?_⟩, ?_, hO, by rw [e1]; exact hT, by rw [e1]; exact hG⟩
  · rw [e2 k i (fun q => hf (Or.inr (Or.inr (Or.inl q)))) (fun q => hf (Or.inr (Or.inr (Or.inr q))))]
    exact (hz k i hf).2
  · unfold rMS at hS ⊢
    rw [e1]; exact hS
theorem rMC.mv1 {σ σ' : zH} {w : Int32} {E : qE} (h : rMC σ w E) (e : σ'.1 = σ.1) : rMC σ' w E := h.mv (fun k _ => by rw [e]) (fun j _ _ _ _ _ _ => by rw [e])
theorem rMS.mv1 {W : Int32} {σ σ' : zH} {E : qE} {D : qD} (h : rMS W σ E D) (e : σ'.1 = σ.1) : rMS W σ' E D := by
  unfold rMS at h ⊢
  rw [e]; exact h
section
variable {W w : Int32} {σ0 σ : zH} {E : qE} {D : qD} {r : Nat} {cl : List (Bool × List qop)}
theorem x11_some (hC : rMC σ w E) (hS : rMS W σ E D) (hL : rML σ r cl) (hE : qeL E = qlaw cl) {c : Nat} (hc : c < qeN E) (sl : Bool) :
    zwp (d_X11_some σ (nI r) (b2i (!sl)) (nI c)) (fun p => p.1.1 = σ.1 ∧ (∀ k i, k ≠ 78 → k ≠ 79 → p.1.2 k i = σ.2 k i) ∧ p.2 = b2i (qeL E sl (qval E D c))) := by
  have hn := hC.1
  have hS1 : ∀ r, r < 7 → σ.1 (mrow r) 0 c = D r c := fun r hr => hS.2.2.2 r c hr hc
  have hR : ∀ r, r < 4 → σ.1 (43 + r) 0 c = qeR E r c := fun r hr => hC.2.2.1 r c hr hc
  unfold d_X11_some
  simp only [ix_nI (show c < 12 by omega) (show 12 < 2 ^ 31 by omega), zlet, uL_1]
  rw [hS.1, show σ.1 63 0 c = D 1 c from hS1 1 (by omega), show σ.1 64 0 c = D 2 c from hS1 2 (by omega), show σ.1 43 0 c = qeR E 0 c from hR 0 (by omega), show σ.1 44 0 c = qeR E 1 c from hR 1 (by omega)]
  generalize hσ1 : uL (uL (uL (uL (uL (uL (uL σ 78 0 0 (D 7 0 - D 7 0 / 96 * 96).toInt64) 78 0 1 (D 7 0 / 96).toInt64) 78 0 2 (D 1 c).toInt64) 78 0 3 (D 2 c).toInt64) 78 0 4 (nI c).toInt64) 78 0 5 (qeR E 0 c).toInt64) 78 0 6 (qeR E 1 c).toInt64 = σ1
  have e1 : σ1.1 = σ.1 := by rw [← hσ1]; rfl
  rw [x11_upSet (hC.mv1 e1) (hS.mv1 e1)]
  simp only [Option.bind_some]
  rw [x11_menUp (hC.mv1 e1)]
  simp only [Option.bind_some]
  have e2 : (uL σ1 78 0 7 (qmen E D).toInt64).1 = σ.1 := e1
  rw [x11_toneNow (hC.mv1 e2) (hS.mv1 e2)]
  simp only [Option.bind_some, uL_1]
  rw [e1, show σ.1 46 0 c = qeR E 3 c from hR 3 (by omega)]
  generalize hσ2 : uL (uL (uL σ1 78 0 7 (qmen E D).toInt64) 78 0 8 (qeT E (qrem (D 7 0))).toInt64) 78 0 9 (qeR E 3 c).toInt64 = σ2
  have e3 : σ2.1 = σ.1 := by rw [← hσ2]; exact e1
  have hv : ∀ w, w < 10 → σ2.2 78 0 w = qval E D c w := fun w hw => by
    have : w = 0 ∨ w = 1 ∨ w = 2 ∨ w = 3 ∨ w = 4 ∨ w = 5 ∨ w = 6 ∨ w = 7 ∨ w = 8 ∨ w = 9 := by omega
    rw [← hσ2, ← hσ1]
    rcases this with rfl | rfl | rfl | rfl | rfl | rfl | rfl | rfl | rfl | rfl <;> simp only [uL_2] <;> simp [qval, qrem]
  have hf : ∀ k i, k ≠ 78 → σ2.2 k i = σ.2 k i := fun k i hk => by
    rw [← hσ2, ← hσ1]
    exact funext fun j => by simp [uL_2, hk]
  obtain ⟨g1, g2, g3, g4⟩ := hL
  rw [show (12 : Int32) * nI r = nI (12 * r) from by rw [← pk_mul]; rfl]
  have h120 : nI (12 * r) = nI (12 * r + 0) := rfl
  rw [h120, hE]
  unfold qlaw
  refine zwp_for (fun f i (a : zH × Int32) => k_X11_some_144 f a.1 (nI r) (b2i (!sl)) a.2 (nI (12 * r + i))) (fun i a => a.1.1 = σ.1 ∧ (∀ k i, k ≠ 79 → a.1.2 k i = σ2.2 k i) ∧ a.2 = b2i (qany (qlawp cl sl (qval E D c)) i)) _ 0 cl.length (by omega) (by omega) ?_ ?_ (σ2, 0) ⟨e3, fun _ _ _ => rfl, rfl⟩
  · rintro f i ⟨σ', x⟩ hi ⟨h1, h2, h3⟩ IH
    dsimp only at h1 h2 h3 ⊢
    subst h3
    obtain ⟨k, code, hcd⟩ : ∃ k code, cl[i]? = some (k, code) := ⟨_, _, List.getElem?_eq_getElem hi⟩
    obtain ⟨d1, d2, d3, b, d4, d5, d6, d7⟩ := g4 i k code hcd
    have hp : qlawp cl sl (qval E D c) i = (k == sl && qcl (qval E D c) code) := by unfold qlawp; rw [hcd]
    have hgo : ∀ σ'' x, σ''.1 = σ.1 → (∀ k i, k ≠ 79 → σ''.2 k i = σ2.2 k i) → x = b2i (qany (qlawp cl sl (qval E D c)) (i + 1)) → zwp (k_X11_some_144 f σ'' (nI r) (b2i (!sl)) x (nI (12 * r + i) + 1)) (fun p => p.1.1 = σ.1 ∧ (∀ k i, k ≠ 78 → k ≠ 79 → p.1.2 k i = σ.2 k i) ∧ p.2 = b2i (qany (qlawp cl sl (qval E D c)) cl.length)) := fun σ'' x a1 a2 a3 => by
      rw [nI_1]
      exact IH (σ'', x) ⟨a1, a2, a3⟩
    rw [k_X11_some_144, ix_nI (by omega) (by omega), h1, g3, show (12 : Int32) * nI r + nI cl.length = nI (12 * r + cl.length) from by rw [← nI_add, ← pk_mul]; rfl, if_pos (nI_lt (by omega) (by omega))]
    simp only [ix_nI (show 12 * r + i < 72 by omega) (show 72 < 2 ^ 31 by omega)]
    rw [d1, d5, d6]
    unfold j_X11_some_204 j_X11_some_205
    refine zwp_if (fun e => ?_) (fun e => ?_)
    · rw [b2i_0] at e
      refine zwp_if (fun e4 => ?_) (fun e4 => ?_)
      · have hk : (k == sl) = true := by cases k <;> cases sl <;> first | rfl | (exact absurd e4 (by decide))
        have hans := x11_answer_loop (σ := σ2) (qval E D c) g1 d4 hv code zN b [] [] σ' (h1.trans e3.symm) h2 rfl (by rw [zN_eq]; omega) (by rw [e3]; exact d7) trivial trivial d2 (by simpa using d3)
        unfold d_X11_answer
        refine zwp_to hans (fun p hp2 => ?_)
        obtain ⟨q1, q2, q3⟩ := hp2
        refine zwp_if (fun e5 => hgo _ _ (q1.trans e3) q2 ?_) (fun e5 => hgo _ _ (q1.trans e3) q2 ?_)
        · rw [lg_cmp_eq] at e5
          rw [qany, e, hp, hk]
          unfold qcl
          rw [← q3, decide_eq_true e5]; rfl
        · rw [lg_cmp_eq] at e5
          rw [qany, e, hp, hk]
          unfold qcl
          rw [← q3, decide_eq_false e5]; rfl
      · have hk : (k == sl) = false := by cases k <;> cases sl <;> first | rfl | (exact absurd rfl e4)
        exact hgo _ _ h1 h2 (by rw [qany, e, hp, hk]; rfl)
    · rw [b2i_0, Bool.not_eq_false] at e
      rw [tv_01 (b2i_01 _)]
      obtain ⟨j, hj, hpj⟩ := qany_ex e
      exact zwp_some.mpr ⟨h1, fun k i h78 h79 => (h2 k i h79).trans (hf k i h78), by rw [e, qany_of (show j < cl.length by omega) hpj]⟩
  · rintro f ⟨σ', x⟩ ⟨h1, h2, h3⟩
    dsimp only at h1 h2 h3 ⊢
    subst h3
    rw [k_X11_some_144, ix_nI (by omega) (by omega), h1, g3, show (12 : Int32) * nI r + nI cl.length = nI (12 * r + cl.length) from by rw [← nI_add, ← pk_mul]; rfl, if_neg (nI_nlt (Nat.le_refl _) (by omega)), tv_01 (b2i_01 _)]
    exact zwp_some.mpr ⟨h1, fun k i h78 h79 => (h2 k i h79).trans (hf k i h78), rfl⟩
end
