/-! CALLS: dream, told -/
theorem bit_step {x z : Int32} {A X : Nat → Bool} {c : Nat} (hc : c < 32) (h : ∀ j, j < 32 → bt x j = (A j || (decide (j < c) && X j))) (hz : z = if X c then q1 c else 0) : ∀ j, j < 32 → bt (x ||| z) j = (A j || (decide (j < c + 1) && X j)) := by
  intro j hj
  rw [b_or, h j hj, hz]
  have e : bt (if X c = true then q1 c else 0) j = (decide (j = c) && X c) := by
    cases hX : X c with
    | true => rw [if_pos rfl, bt_q1 hc hj, Bool.and_true]
    | false => rw [if_neg (by decide), b_0, Bool.and_false]
  rw [e]
  by_cases q : j = c
  · subst q
    rw [decide_eq_true rfl, decide_eq_true (show j < j + 1 by omega), decide_eq_false (show ¬ j < j by omega)]
    simp
  · rw [decide_eq_false q]
    by_cases q2 : j < c
    · rw [decide_eq_true q2, decide_eq_true (show j < c + 1 by omega)]; simp
    · rw [decide_eq_false q2, decide_eq_false (show ¬ j < c + 1 by omega)]; simp
theorem bit_keep {x : Int32} {A X : Nat → Bool} {c : Nat} (h : ∀ j, j < 32 → bt x j = (A j || (decide (j < c) && X j))) (hX : X c = false) : ∀ j, j < 32 → bt x j = (A j || (decide (j < c + 1) && X j)) := by
  intro j hj
  rw [h j hj]
  by_cases q : j = c
  · subst q; rw [hX, Bool.and_false, Bool.and_false]
  · by_cases q2 : j < c
    · rw [decide_eq_true q2, decide_eq_true (show j < c + 1 by omega)]
    · rw [decide_eq_false q2, decide_eq_false (show ¬ j < c + 1 by omega)]
section
variable {W w : Int32} {σ : zH} {E : qE} {D : qD}
theorem x11_tellsOn (hC : rMC σ w E) (hS : rMS W σ E D) (s : Int32) : d_X11_tellsOn σ s = some (σ, qtell E (qmask (qup D) (qeN E)) s) := by
  have hn := hC.1
  have h44 : ∀ j, j < qeN E → σ.1 44 0 j = qeR E 1 j := fun j hj => hC.2.2.1 1 j (by omega) hj
  have h45 : ∀ j, j < qeN E → σ.1 45 0 j = qeR E 2 j := fun j hj => hC.2.2.1 2 j (by omega) hj
  have h62 : ∀ j, j < qeN E → σ.1 62 0 j = D 0 j := fun j hj => hS.2.2.2 0 j (by omega) hj
  have hix : ∀ k, k < 12 → ∀ F : Nat → Option (zH × Int32), ix (nI k) 12 F = F k := fun k hk F => ix_nI hk (by omega)
  have bup : ∀ c, c < qeN E → bt (qmask (qup D) (qeN E)) c = qup D c := fun c hc => bt_up hn hc
  generalize qmask (qup D) (qeN E) = u at bup
  rw [← zwp_eq]
  unfold d_X11_tellsOn
  rw [nI_c0]
  refine zwp_for (fun f o (x : Int32) => k_X11_tellsOn_4 j_X11_tellsOn_94 f σ s x (nI o)) (fun o x => ∀ j, j < 32 → bt x j = (bt s j || (decide (j < qeN E) && (bt u j && qany (fun o => bt s o && bt u o && decide (qeR E 1 j = qeR E 1 o)) o)))) _ 0 (qeN E) (by omega) (by omega) ?_ ?_ s (fun j hj => by rw [qany]; simp)
  · rintro f o x ho hx IH
    rw [k_X11_tellsOn_4, hC.2.1, if_pos (nI_lt ho (by omega)), nI_c0]
    refine zwp_for (fun f' c (x : Int32) => k_X11_tellsOn_17 (j_X11_tellsOn_88 (k_X11_tellsOn_4 j_X11_tellsOn_94 f)) f' σ s x (nI o) (nI c)) (fun c x => ∀ j, j < 32 → bt x j = ((bt s j || (decide (j < qeN E) && (bt u j && qany (fun o => bt s o && bt u o && decide (qeR E 1 j = qeR E 1 o)) o))) || (decide (j < c) && (bt u j && (bt s o && bt u o && decide (qeR E 1 j = qeR E 1 o)))))) _ 0 (qeN E) (by omega) (by omega) ?_ ?_ x (fun j hj => by rw [hx j hj]; simp)
    · rintro f' c y hc hy IH2
      rw [k_X11_tellsOn_17, hC.2.1, if_pos (nI_lt hc (by omega)), has_eq _ _ (by omega)]
      simp only [Option.bind_some]
      unfold j_X11_tellsOn_79 j_X11_tellsOn_80
      simp only [hix c (by omega), hix o (by omega)]
      rw [h62 o ho, h62 c hc, h44 o ho, h44 c hc, nI_1, or_0]
      have hno : (bt u c && (bt s o && bt u o && decide (qeR E 1 c = qeR E 1 o))) = false → zwp (k_X11_tellsOn_17 (j_X11_tellsOn_88 (k_X11_tellsOn_4 j_X11_tellsOn_94 f)) f' σ s y (nI o) (nI (c + 1))) (fun a => a = (σ, qtell E u s)) := fun e =>
        IH2 y (bit_keep (X := fun j => bt u j && (bt s o && bt u o && decide (qeR E 1 j = qeR E 1 o))) hy e)
      refine zwp_if (fun e => hno ?_) (fun e => ?_)
      · rw [b2i_0] at e
        rw [e]; simp
      · have es : bt s o = true := by
          cases hh : bt s o with
          | true => rfl
          | false => rw [hh] at e; exact absurd rfl e
        refine zwp_if (fun e2 => ?_) (fun e2 => hno ?_)
        · refine zwp_if (fun e3 => ?_) (fun e3 => hno ?_)
          · refine zwp_if (fun e4 => ?_) (fun e4 => hno ?_)
            · refine IH2 _ (bit_step (X := fun j => bt u j && (bt s o && bt u o && decide (qeR E 1 j = qeR E 1 o))) (by omega) hy ?_)
              have ec : (bt u c && (bt s o && bt u o && decide (qeR E 1 c = qeR E 1 o))) = true := by
                rw [bup c hc, bup o ho, es, decide_eq_true e4, show qup D c = true from decide_eq_true e3, show qup D o = true from decide_eq_true e2]; rfl
              rw [if_pos ec]; rfl
            · rw [decide_eq_false e4]; simp
          · rw [bup c hc, show qup D c = false from decide_eq_false e3]; rfl
        · rw [bup o ho, show qup D o = false from decide_eq_false e2]; simp
    · rintro f' y hy
      rw [k_X11_tellsOn_17, hC.2.1, if_neg (nI_nlt (Nat.le_refl _) (by omega))]
      unfold j_X11_tellsOn_88
      rw [nI_1]
      refine IH _ (fun j hj => ?_)
      rw [hy j hj, qany]
      cases bt s j <;> cases decide (j < qeN E) <;> cases bt u j <;> simp
  · rintro f x hx
    rw [k_X11_tellsOn_4, hC.2.1, if_neg (nI_nlt (Nat.le_refl _) (by omega))]
    have ex : x = qhall E u s := b_ext (fun j hj => by
      unfold qhall
      rw [hx j hj, b_or, bt_mask _ _ (by omega) j hj])
    subst ex
    unfold j_X11_tellsOn_94
    unfold qtell
    generalize qhall E u s = t
    rw [nI_c0]
    refine zwp_for (fun f o (x : Int32) => k_X11_tellsOn_99 f σ t x (nI o)) (fun o x => ∀ j, j < 32 → bt x j = (bt t j || (decide (j < qeN E) && qany (fun o => bt t o && decide (qeR E 2 j = qeR E 2 o)) o))) _ 0 (qeN E) (by omega) (by omega) ?_ ?_ t (fun j hj => by rw [qany]; simp)
    · rintro f o x ho hx2 IH
      rw [k_X11_tellsOn_99, hC.2.1, if_pos (nI_lt ho (by omega)), nI_c0]
      refine zwp_for (fun f' c (x : Int32) => k_X11_tellsOn_113 (j_X11_tellsOn_167 (k_X11_tellsOn_99 f)) f' σ t x (nI o) (nI c)) (fun c x => ∀ j, j < 32 → bt x j = ((bt t j || (decide (j < qeN E) && qany (fun o => bt t o && decide (qeR E 2 j = qeR E 2 o)) o)) || (decide (j < c) && (bt t o && decide (qeR E 2 j = qeR E 2 o))))) _ 0 (qeN E) (by omega) (by omega) ?_ ?_ x (fun j hj => by rw [hx2 j hj]; simp)
      · rintro f' c y hc hy IH2
        rw [k_X11_tellsOn_113, hC.2.1, if_pos (nI_lt hc (by omega)), has_eq _ _ (by omega)]
        simp only [Option.bind_some]
        unfold j_X11_tellsOn_158 j_X11_tellsOn_159
        simp only [hix c (by omega), hix o (by omega)]
        rw [h45 o ho, h45 c hc, nI_1, or_0]
        have hno : (bt t o && decide (qeR E 2 c = qeR E 2 o)) = false → zwp (k_X11_tellsOn_113 (j_X11_tellsOn_167 (k_X11_tellsOn_99 f)) f' σ t y (nI o) (nI (c + 1))) (fun a => a = (σ, qbeds E t)) := fun e =>
          IH2 y (bit_keep (X := fun j => bt t o && decide (qeR E 2 j = qeR E 2 o)) hy e)
        refine zwp_if (fun e => hno ?_) (fun e => ?_)
        · rw [b2i_0] at e
          rw [e]; rfl
        · have es : bt t o = true := by
            cases hh : bt t o with
            | true => rfl
            | false => rw [hh] at e; exact absurd rfl e
          refine zwp_if (fun e2 => ?_) (fun e2 => hno ?_)
          · refine IH2 _ (bit_step (X := fun j => bt t o && decide (qeR E 2 j = qeR E 2 o)) (by omega) hy ?_)
            rw [show (bt t o && decide (qeR E 2 c = qeR E 2 o)) = true by rw [es, decide_eq_true e2]; rfl, if_pos rfl]; rfl
          · rw [decide_eq_false e2, Bool.and_false]
      · rintro f' y hy
        rw [k_X11_tellsOn_113, hC.2.1, if_neg (nI_nlt (Nat.le_refl _) (by omega))]
        unfold j_X11_tellsOn_167
        rw [nI_1]
        refine IH _ (fun j hj => ?_)
        rw [hy j hj, qany]
        cases bt t j <;> cases decide (j < qeN E) <;> simp
    · rintro f x hx2
      rw [k_X11_tellsOn_99, hC.2.1, if_neg (nI_nlt (Nat.le_refl _) (by omega))]
      refine zwp_some.mpr (congrArg (fun v => (σ, v)) (b_ext (fun j hj => ?_)))
      unfold qbeds
      rw [hx2 j hj, b_or, bt_mask _ _ (by omega) j hj]
end
/-- when it was told: the first quarter at which to has it -/
def qtold (E : qE) (D : qD) (s0 : Int32) (to_ T : Nat) : Int32 := if qfst (fun k => bt (qdrm E D s0 k) to_) (T + 1) = -1 then -2 else qfst (fun k => bt (qdrm E D s0 k) to_) (T + 1)
theorem m_dreams {σm : zH} {r : Nat} {E : qE} {wt : Int32} {D : qD} {cl : List (Bool × List qop)} (hE : qeL E = qlaw cl) (hL : rML σm r cl) (h : rMP 0 σm (-1) E wt D) (hd : (D 7 0).toInt ≤ 9999) (c T to_ : Nat) (hc : c < 12) (ht : to_ < 12) (hT : T ≤ 96) :
    zwp (d_X11_dreams σm (nI r) (nI c) (nI T) (nI to_)) (fun p => ms2 σm p.1 ∧ p.2 = qdrm E D (q1 c) T ∧ p.1.1 11 0 61 = qtold E D (q1 c) to_ T) := by
  have h00 := h.2.2.1.2.2.1
  unfold d_X11_dreams
  obtain ⟨σ1, f1, gK, gP, -⟩ := x11_keepsP h
  rw [f1]
  simp only [Option.bind_some]
  -- the told one stands beside
  have main : ∀ v, v = qtold E D (q1 c) to_ 0 → zwp (j_X11_dreams_22 σ1 (nI r) (nI T) (nI to_) ((1 : Int32) <<< (nI c &&& 31)) v) (fun p => ms2 σm p.1 ∧ p.2 = qdrm E D (q1 c) T ∧ p.1.1 11 0 61 = qtold E D (q1 c) to_ T) := by
    intro v hv
    unfold j_X11_dreams_22
    refine zwp_let.mpr ?_
    have k61 : ∀ (τ : zH) (v : Int32), (∀ k j, ¬ (k = 11 ∧ j = 61) → (uI τ 11 0 61 v).1 k 0 j = τ.1 k 0 j) := fun τ v k j hk => by rw [uI_1, if_neg (by omega)]
    have kf : ∀ (τ : zH) (v : Int32) k, k ≠ 11 → (uI τ 11 0 61 v).1 k 0 = τ.1 k 0 := fun τ v k hk => funext fun j => k61 τ v k j (by omega)
    have mvP : ∀ (τ : zH) (v : Int32) (D' : qD), rMP 0 τ (-1) E wt D' → rMP 0 (uI τ 11 0 61 v) (-1) E wt D' := fun τ v D' hp => hp.s2 ⟨fun k hk => kf τ v k (by omega), fun j _ => k61 τ v 42 j (by omega), fun k a b j _ => k61 τ v k j (by omega), fun j hj => k61 τ v 11 j (by omega)⟩
    have mvK : ∀ (τ : zH) (v : Int32), (kept τ σm ∧ ∀ k i j, ¬ (k = 42 ∨ (62 ≤ k ∧ k ≤ 69) ∨ (78 ≤ k ∧ k ≤ 89)) → ¬ (k = 11 ∧ i = 0 ∧ j = 61) → τ.1 k i j = σm.1 k i j) → (kept (uI τ 11 0 61 v) σm ∧ ∀ k i j, ¬ (k = 42 ∨ (62 ≤ k ∧ k ≤ 69) ∨ (78 ≤ k ∧ k ≤ 89)) → ¬ (k = 11 ∧ i = 0 ∧ j = 61) → (uI τ 11 0 61 v).1 k i j = σm.1 k i j) := fun τ v hk =>
      ⟨⟨fun j hj => by rw [kf τ v 80 (by omega)]; exact hk.1.1 j hj, fun k a b j hj => by rw [kf τ v (k + 19) (by omega)]; exact hk.1.2 k a b j hj⟩, fun k i j h1 h2 => by rw [uI_1, if_neg h2]; exact hk.2 k i j h1 h2⟩
    rw [show k_X11_dreams_28 j_X11_dreams_85 zN (uI σ1 11 0 61 v) (nI r) (nI T) (nI to_) ((1 : Int32) <<< (nI c &&& 31)) (1 : Int32) = k_X11_dreams_28 j_X11_dreams_85 zN (uI σ1 11 0 61 v) (nI r) (nI T) (nI to_) (q1 c) (nI (0 + 1)) by rw [Nat.zero_add, nI_one]; rfl]
    refine zwp_for (fun f i (a : zH × Int32) => k_X11_dreams_28 j_X11_dreams_85 f a.1 (nI r) (nI T) (nI to_) a.2 (nI (i + 1))) (fun i a => (kept a.1 σm ∧ ∀ k i j, ¬ (k = 42 ∨ (62 ≤ k ∧ k ≤ 69) ∨ (78 ≤ k ∧ k ≤ 89)) → ¬ (k = 11 ∧ i = 0 ∧ j = 61) → a.1.1 k i j = σm.1 k i j) ∧ rMP 0 a.1 (-1) E wt (qrun E i D) ∧ a.2 = qdrm E D (q1 c) i ∧ a.1.1 11 0 61 = qtold E D (q1 c) to_ i) _ 0 T (by omega) (by omega) ?_ ?_ (uI σ1 11 0 61 v, q1 c) ⟨mvK σ1 v ⟨gK.1, fun k i j h1 _ => by rw [(gK.2 k i h1).1]⟩, mvP σ1 v _ (by rw [qrun]; exact gP), rfl, by rw [← hv]; show (uI σ1 11 0 61 v).1 11 0 61 = v; rw [uI_1, if_pos ⟨rfl, rfl, rfl⟩]⟩
    · rintro f i ⟨τ, m⟩ hi ⟨j1, j2, j3, j4⟩ IH
      dsimp only at j1 j2 j3 j4 ⊢
      subst j3
      have hq := qrun_70 E D i (by omega) (by omega)
      rw [k_X11_dreams_28, if_neg (nI_nlt (show i + 1 ≤ T by omega) (by omega))]
      have hL2 : rML τ r cl := hL.mv (fun k hk => funext fun j => j1.2 k 0 j (by omega) (by omega))
      obtain ⟨τ2, f2, w2, q2, -⟩ := x11_q hE hL2 j2 (by omega)
      rw [← qrun] at q2
      rw [f2]
      simp only [Option.bind_some]
      rw [x11_tellsOn q2.1 q2.2.1]
      simp only [Option.bind_some]
      have ed : qtell E (qmask (qup (qrun E (i + 1) D)) (qeN E)) (qdrm E D (q1 c) i) = qdrm E D (q1 c) (i + 1) := rfl
      rw [ed]
      have e61 : τ2.1 11 0 61 = qtold E D (q1 c) to_ i := by rw [(w2 11 0 (by unfold FM; omega)).1]; exact j4
      have kk : (kept τ2 σm ∧ ∀ k i j, ¬ (k = 42 ∨ (62 ≤ k ∧ k ≤ 69) ∨ (78 ≤ k ∧ k ≤ 89)) → ¬ (k = 11 ∧ i = 0 ∧ j = 61) → τ2.1 k i j = σm.1 k i j) := by
        refine ⟨⟨fun j hj => ?_, fun k a b j hj => ?_⟩, fun k i j h1 h2 => ?_⟩
        · rw [(w2 80 0 (by unfold FM; omega)).1]; exact j1.1.1 j hj
        · rw [(w2 (k + 19) 0 (by unfold FM; omega)).1]; exact j1.1.2 k a b j hj
        · rw [(w2 k i (by unfold FM; omega)).1]; exact j1.2 k i j h1 h2
      have hgo : ∀ v, v = qtold E D (q1 c) to_ (i + 1) → zwp (j_X11_dreams_76 (k_X11_dreams_28 j_X11_dreams_85 f) τ2 (nI r) (nI T) (nI to_) (qdrm E D (q1 c) (i + 1)) (nI (i + 1)) v) (fun p => ms2 σm p.1 ∧ p.2 = qdrm E D (q1 c) T ∧ p.1.1 11 0 61 = qtold E D (q1 c) to_ T) := fun v hv => by
        unfold j_X11_dreams_76
        rw [nI_1]
        refine zwp_let.mpr (IH (uI τ2 11 0 61 v, _) ⟨mvK τ2 v kk, mvP τ2 v _ q2, rfl, ?_⟩)
        show (uI τ2 11 0 61 v).1 11 0 61 = _
        rw [uI_1, if_pos ⟨rfl, rfl, rfl⟩, hv]
      unfold j_X11_dreams_72
      rw [e61, has_eq _ _ (by omega)]
      simp only [Option.bind_some]
      -- what was told so far
      generalize hp : (fun k => bt (qdrm E D (q1 c) k) to_) = p at *
      have ht1 : ∀ n, qtold E D (q1 c) to_ n = if qfst p (n + 1) = -1 then -2 else qfst p (n + 1) := fun n => by rw [← hp]; rfl
      have hpi : bt (qdrm E D (q1 c) (i + 1)) to_ = p (i + 1) := by rw [← hp]
      rw [hpi]
      have hold : qany p (i + 1) = true → qfst p (i + 1 + 1) = qfst p (i + 1) := fun e => by
        show (if qany p (i + 1) = true then qfst p (i + 1) else _) = _
        rw [if_pos e]
      refine zwp_if (fun e => ?_) (fun e => ?_)
      · have hno : qany p (i + 1) = false := by
          rcases qfst_cases p (i + 1) with ⟨q, -⟩ | ⟨k, hk, -, -, q⟩
          · exact q
          · rw [ht1, q, if_neg (ne_m1 (by omega))] at e
            have := congrArg Int32.toInt e
            rw [nI_toInt (by omega), i32_m2] at this
            omega
        refine zwp_if (fun e2 => ?_) (fun e2 => ?_)
        · rw [b2i_0] at e2
          refine hgo _ ?_
          rw [e61, e, ht1, qfst_no (show qany p (i + 1 + 1) = false by rw [qany, hno, e2]; rfl), if_pos rfl]
        · have e3 : p (i + 1) = true := by
            cases hh : p (i + 1) with
            | true => rfl
            | false => rw [hh] at e2; exact absurd rfl e2
          refine hgo _ ?_
          rw [ht1, qfst_of hno e3 (show i + 1 < i + 1 + 1 by omega), if_neg (ne_m1 (by omega))]
      · have hy : qany p (i + 1) = true := by
          cases hh : qany p (i + 1) with
          | true => rfl
          | false => rw [ht1, qfst_no hh, if_pos rfl] at e; exact absurd rfl e
        refine hgo _ ?_
        rw [ht1, ht1, hold hy]
    · rintro f ⟨τ, m⟩ ⟨j1, j2, j3, j4⟩
      dsimp only at j1 j2 j3 j4 ⊢
      subst j3
      rw [k_X11_dreams_28, if_pos (nI_lt (show T < T + 1 by omega) (by omega))]
      unfold j_X11_dreams_85
      refine zwp_to (x11_laysBack j1.1) (fun υ g => ?_)
      obtain ⟨g1, g2, g3, g4⟩ := g
      have oth : ∀ k j, ¬ (k = 42 ∨ (62 ≤ k ∧ k ≤ 69) ∨ (78 ≤ k ∧ k ≤ 89)) → ¬ (k = 11 ∧ j = 61) → υ.1 k 0 j = σm.1 k 0 j := fun k j hk hj => by
        rw [g2 k 0 j (by omega), j1.2 k 0 j hk (by omega)]
      refine zwp_some.mpr ⟨⟨fun k hk => funext fun j => oth k j (by omega) (by omega), g3, g4, fun j hj => oth 11 j (by omega) (by omega)⟩, rfl, ?_⟩
      show υ.1 11 0 61 = _
      rw [g2 11 0 61 (by omega)]; exact j4
  have h0 : qtold E D (q1 c) to_ 0 = if c = to_ then 0 else -2 := by
    unfold qtold
    have e : bt (qdrm E D (q1 c) 0) to_ = decide (to_ = c) := by rw [qdrm, bt_q1 (by omega) (by omega)]
    by_cases q : c = to_
    · rw [if_pos q, qfst_of (n := 0 + 1) (i := 0) rfl (by rw [e]; exact decide_eq_true q.symm) (by omega), if_neg (ne_m1 (by omega))]; rfl
    · rw [if_neg q, qfst_no (by rw [qany, e, decide_eq_false (fun w => q w.symm)]; rfl), if_pos rfl]
  refine zwp_if (fun e => main _ ?_) (fun e => main _ ?_)
  · rw [h0, if_pos ((nI_eq (by omega) (by omega)).mp e)]
  · rw [h0, if_neg (fun q => e (by rw [q]))]
theorem r_dream {σc σm : zH} (h : qR σc σm) (x y w : Int32) : zrel (d_X10_dream σc x y w) (d_X11_dream σm x y w) qR := by
  obtain ⟨L, l1, l2, l3, -⟩ := h.2.1
  unfold d_X10_dream d_X11_dream
  rcases num_case x L (by omega) with hx | ⟨r, hr, rfl⟩
  · rw [x10_noLaw l2 hx, x11_noLaw l3 l1 hx]
    exact zrel_same h
  rw [x10_isLaw l2 l1 hr, x11_isLaw l3 l1 hr]
  simp only [Option.bind_some]
  rw [if_neg i10, if_neg i10]
  obtain ⟨E, wt, D, cl, hE, c1, c2, v⟩ := h.law l2 l1 hr
  have c0 : σc.1 0 1 0 = nI (qeN E) := v.1.1.2.1
  have m0 : σm.1 42 0 0 = nI (qeN E) := v.2.1.1.2.1
  have hn := v.1.1.1
  have hd := v.2.2.2.2.2.1
  rcases num_case y (qeN E) (by omega) with hy | ⟨c, hc, rfl⟩
  · rw [x10_noCompany c0 hy, x11_noCompany m0 hn hy]
    exact zrel_same h
  rw [x10_isCompany c0 hn hc, x11_isCompany m0 hn hc]
  simp only [Option.bind_some]
  rw [if_neg i10, if_neg i10]
  by_cases h1 : w < 0
  · rw [if_pos h1, in_0 (A := 0) (B := 96) 0 96 rfl rfl (Or.inl h1)]
    exact zrel_same h
  rw [if_neg h1]
  by_cases h2 : (96 : Int32) < w
  · rw [if_pos h2, in_0 (A := 0) (B := 96) 0 96 rfl rfl (Or.inr h2)]
    exact zrel_same h
  rw [if_neg h2, in_1 (A := 0) (B := 96) 0 96 rfl rfl h1 h2]
  simp only [Option.bind_some]
  rw [if_neg i10]
  obtain ⟨T, hT, rfl⟩ := nI_of h1
  rw [show (96 : Int32) = nI 96 from rfl, nI_ltI (by omega) hT] at h2
  rw [ix_nI (by omega) (by omega), Nat.zero_add]
  obtain ⟨σ1, e1, z1, u1⟩ := c_foresee hE c1 v.1 hd T (by omega)
  rw [e1]
  simp only [Option.bind_some]
  have hC1 : rC σ1 1 E := (v.1.gc z1).1
  refine zrel_of (P1 := fun σ => zsm Gc σc σ) (P2 := fun τ => ms2 σm τ) (v := qdrm E D (q1 c) T) ?_ ?_ (fun a b p q => (h.c p).m q)
  · rw [nI_c0]
    refine zwp_for (fun g i (a : Int32) => k_X10_dream_50 g σ1 (nI T) a (nI i)) (fun i a => a = qdrm E D (q1 c) i) _ 0 T (by omega) (by omega) ?_ ?_ (q1 c) rfl
    · rintro g i a hi rfl IH
      rw [k_X10_dream_50, if_pos (nI_lt hi (by omega)), x3_dreamOn hC1 (by omega) (u1 i hi), nI_1]
      simp only [Option.bind_some]
      exact IH _ rfl
    · rintro g a rfl
      rw [k_X10_dream_50, if_neg (nI_nlt (Nat.le_refl _) (by omega))]
      exact zwp_some.mpr ⟨z1, rfl⟩
  · refine zwp_to (m_dreams hE c2 v.2.1 hd c T c (by omega) (by omega) (by omega)) (fun p g => zwp_some.mpr ⟨g.1, g.2.1⟩)
theorem r_told {σc σm : zH} (h : qR σc σm) (x y w z : Int32) : zrel (d_X10_told σc x y w z) (d_X11_told σm x y w z) qR := by
  obtain ⟨L, l1, l2, l3, -⟩ := h.2.1
  unfold d_X10_told d_X11_told
  rcases num_case x L (by omega) with hx | ⟨r, hr, rfl⟩
  · rw [x10_noLaw l2 hx, x11_noLaw l3 l1 hx]
    exact zrel_same h
  rw [x10_isLaw l2 l1 hr, x11_isLaw l3 l1 hr]
  simp only [Option.bind_some]
  rw [if_neg i10, if_neg i10]
  obtain ⟨E, wt, D, cl, hE, c1, c2, v⟩ := h.law l2 l1 hr
  have c0 : σc.1 0 1 0 = nI (qeN E) := v.1.1.2.1
  have m0 : σm.1 42 0 0 = nI (qeN E) := v.2.1.1.2.1
  have hn := v.1.1.1
  have hd := v.2.2.2.2.2.1
  rcases num_case y (qeN E) (by omega) with hy | ⟨c, hc, rfl⟩
  · rw [x10_noCompany c0 hy, x11_noCompany m0 hn hy]
    exact zrel_same h
  rw [x10_isCompany c0 hn hc, x11_isCompany m0 hn hc]
  simp only [Option.bind_some]
  rw [if_neg i10, if_neg i10]
  rcases num_case w (qeN E) (by omega) with hy | ⟨t, ht, rfl⟩
  · rw [x10_noCompany c0 hy, x11_noCompany m0 hn hy]
    exact zrel_same h
  rw [x10_isCompany c0 hn ht, x11_isCompany m0 hn ht]
  simp only [Option.bind_some]
  rw [if_neg i10, if_neg i10]
  by_cases h1 : z < 0
  · rw [if_pos h1, in_0 (A := 0) (B := 96) 0 96 rfl rfl (Or.inl h1)]
    exact zrel_same h
  rw [if_neg h1]
  by_cases h2 : (96 : Int32) < z
  · rw [if_pos h2, in_0 (A := 0) (B := 96) 0 96 rfl rfl (Or.inr h2)]
    exact zrel_same h
  rw [if_neg h2, in_1 (A := 0) (B := 96) 0 96 rfl rfl h1 h2]
  simp only [Option.bind_some]
  rw [if_neg i10]
  obtain ⟨T, hT, rfl⟩ := nI_of h1
  rw [show (96 : Int32) = nI 96 from rfl, nI_ltI (by omega) hT] at h2
  rw [ix_nI (by omega) (by omega), Nat.zero_add]
  obtain ⟨σ1, e1, z1, u1⟩ := c_foresee hE c1 v.1 hd T (by omega)
  rw [e1]
  simp only [Option.bind_some]
  have hC1 : rC σ1 1 E := (v.1.gc z1).1
  refine zrel_of (P1 := fun σ => zsm Gc σc σ) (P2 := fun τ => ms2 σm τ) (v := qtold E D (q1 c) t T) ?_ ?_ (fun a b p q => (h.c p).m q)
  · have hv : qtold E D (q1 c) t T = if qfst (fun k => bt (qdrm E D (q1 c) k) t) (T + 1) = -1 then -2 else qfst (fun k => bt (qdrm E D (q1 c) k) t) (T + 1) := rfl
    rw [hv]
    have hp : ∀ k, bt (qdrm E D (q1 c) k) t = (fun k => bt (qdrm E D (q1 c) k) t) k := fun k => rfl
    generalize (fun k => bt (qdrm E D (q1 c) k) t) = p at hp ⊢
    rw [show k_X10_told_61 j_X10_told_99 zN σ1 (nI t) (nI T) ((1 : Int32) <<< (nI c &&& 31)) (0 : Int32) = k_X10_told_61 j_X10_told_99 zN σ1 (nI t) (nI T) (q1 c) (nI 0) by rw [nI_0]; rfl]
    refine zwp_for (fun g i (a : Int32) => k_X10_told_61 j_X10_told_99 g σ1 (nI t) (nI T) a (nI i)) (fun i a => a = qdrm E D (q1 c) i ∧ qany p i = false) _ 0 T (by omega) (by omega) ?_ ?_ (q1 c) ⟨rfl, rfl⟩
    · rintro g i a hi ⟨rfl, hno⟩ IH
      rw [k_X10_told_61, if_pos (nI_lt hi (by omega)), bt_ask _ (by omega), hp]
      refine zwp_if (fun e => ?_) (fun e => ?_)
      · rw [b2i_0] at e
        rw [x3_dreamOn hC1 (by omega) (u1 i hi), nI_1]
        simp only [Option.bind_some]
        exact IH _ ⟨rfl, by rw [qany, hno, e]; rfl⟩
      · have e3 : p i = true := by
          cases hh : p i with
          | true => rfl
          | false => rw [hh] at e; exact absurd rfl e
        refine zwp_some.mpr ⟨z1, ?_⟩
        rw [qfst_of hno e3 (show i < T + 1 by omega), if_neg (ne_m1 (by omega))]
    · rintro g a ⟨rfl, hno⟩
      rw [k_X10_told_61, if_neg (nI_nlt (Nat.le_refl _) (by omega))]
      unfold j_X10_told_99
      rw [bt_ask _ (by omega), hp]
      refine zwp_if (fun e => ?_) (fun e => ?_)
      · rw [b2i_0] at e
        refine zwp_some.mpr ⟨z1, ?_⟩
        rw [qfst_no (show qany p (T + 1) = false by rw [qany, hno, e]; rfl), if_pos rfl]
      · have e3 : p T = true := by
          cases hh : p T with
          | true => rfl
          | false => rw [hh] at e; exact absurd rfl e
        refine zwp_some.mpr ⟨z1, ?_⟩
        rw [qfst_of hno e3 (show T < T + 1 by omega), if_neg (ne_m1 (by omega))]
  · refine zwp_to (m_dreams hE c2 v.2.1 hd c T t (by omega) (by omega) (by omega)) (fun p g => zwp_some.mpr ⟨g.1, g.2.2⟩)
