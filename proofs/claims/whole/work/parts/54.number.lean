/-! THE TEXT: faults, numbers -/
def flt (f c : Int32) (p : Nat) : Int32 := if f = 0 then (1 : Int32) + (8 : Int32) * nI p + c else f
theorem flt_ne {f c : Int32} {p : Nat} (hp : p ≤ 401) (h1 : 0 ≤ c.toInt) (h2 : c.toInt ≤ 7) : 0 < (flt f c p).toInt ∨ (¬ f = 0 ∧ flt f c p = f) := by
  unfold flt
  by_cases h : f = 0
  · left
    have e1 : ((8 : Int32) * nI p).toInt = 8 * p := by rw [show (8 : Int32) = nI 8 from rfl, pk_mul, nI_toInt (by omega)]; omega
    have e2 : ((1 : Int32) + (8 : Int32) * nI p).toInt = 1 + 8 * p := by rw [fb_addI (by rw [i32_1, e1]; omega) (by rw [i32_1, e1]; omega), i32_1, e1]
    rw [if_pos h, fb_addI (by rw [e2]; omega) (by rw [e2]; omega), e2]
    omega
  · right
    exact ⟨h, by rw [if_neg h]⟩
theorem flt_n0 {f c : Int32} {p : Nat} (hp : p ≤ 401) (h1 : 0 ≤ c.toInt) (h2 : c.toInt ≤ 7) : ¬ flt f c p = 0 := fun e => by
  rcases flt_ne (f := f) hp h1 h2 with h | ⟨h, h'⟩
  · rw [e, i32_0] at h; omega
  · rw [h'] at e; exact h e
theorem flt_nn {f c : Int32} {p : Nat} (hp : p ≤ 401) (h1 : 0 ≤ c.toInt) (h2 : c.toInt ≤ 7) (hf : 0 ≤ f.toInt) : 0 ≤ (flt f c p).toInt := by
  rcases flt_ne (f := f) hp h1 h2 with h | ⟨-, h'⟩
  · omega
  · rw [h']; exact hf
theorem x7_fail {σ : zH} {q : Nat} (h2 : σ.1 7 0 2 = nI q) (c : Int32) : ∃ σ', d_X7_fail σ c = some σ' ∧ z7 σ σ' ∧ σ'.1 7 0 5 = flt (σ.1 7 0 5) c q ∧ ∀ j, j ≠ 5 → σ'.1 7 0 j = σ.1 7 0 j := by
  unfold d_X7_fail flt
  by_cases h : σ.1 7 0 5 = 0
  · rw [if_pos h, if_pos h, h2]
    exact ⟨_, rfl, z7.rf.uI _ _, by rw [x7_u, if_pos rfl], fun j hj => by rw [x7_u, if_neg hj]⟩
  · rw [if_neg h, if_neg h]
    exact ⟨_, rfl, z7.rf, rfl, fun _ _ => rfl⟩
/-- the reference's place and fault alone -/
def zm2 (σ σ' : zH) : Prop := σ'.2 = σ.2 ∧ ∀ k i j, ¬ (k = 11 ∧ i = 0 ∧ (j = 31 ∨ j = 32)) → σ'.1 k i j = σ.1 k i j
theorem zm2.rf {σ : zH} : zm2 σ σ := ⟨rfl, fun _ _ _ _ => rfl⟩
theorem zm2.tr {σ τ υ : zH} (h : zm2 σ τ) (h2 : zm2 τ υ) : zm2 σ υ := ⟨h2.1.trans h.1, fun k i j hk => (h2.2 k i j hk).trans (h.2 k i j hk)⟩
theorem z31.m2 {σ σ' : zH} {p : Nat} (z : z31 σ σ' p) : zm2 σ σ' := ⟨z.1, fun k i j hk => z.2.1 k i j (by omega)⟩
theorem zm2.tx {b : Nat → Int32} {t : Nat} {σ σ' : zH} (z : zm2 σ σ') (h : txm b t σ) : txm b t σ' := h.mv (z.2 11 0 30 (by omega)) (funext fun j => z.2 70 0 j (by omega))
theorem zm2.uI {σ σ' : zH} (z : zm2 σ σ') {j : Nat} (hj : j = 31 ∨ j = 32) (x : Int32) : zm2 σ (uI σ' 11 0 j x) := ⟨z.1, fun k i j' hk => by rw [uI_1, if_neg (by omega)]; exact z.2 k i j' hk⟩
theorem x11_fails (σ : zH) (c : Int32) (p : Nat) : ∃ σ', d_X11_fails σ c (nI p) = some σ' ∧ zm2 σ σ' ∧ σ'.1 11 0 32 = flt (σ.1 11 0 32) c p ∧ σ'.1 11 0 31 = σ.1 11 0 31 := by
  unfold d_X11_fails flt j_X11_fails_23
  by_cases h : σ.1 11 0 32 = 0
  · rw [if_pos h, if_pos h]
    exact ⟨_, rfl, zm2.rf.uI (Or.inr rfl) _, by rw [uI_1, if_pos ⟨rfl, rfl, rfl⟩], by rw [uI_1, if_neg (by omega)]⟩
  · rw [if_neg h, if_neg h]
    exact ⟨_, rfl, zm2.rf.uI (Or.inr rfl) _, by rw [uI_1, if_pos ⟨rfl, rfl, rfl⟩], by rw [uI_1, if_neg (by omega)]⟩
theorem i32_99999 : (99999 : Int32).toInt = 99999 := by decide
section
variable {b : Nat → Int32} {t : Nat}
theorem x11_digits {σ : zH} (h : txm b t σ) {p : Nat} (hp : σ.1 11 0 31 = nI p) (hpt : p ≤ t) : zwp (d_X11_digits σ (99999 : Int32)) (fun r => zm2 σ r.1 ∧ r.1.1 11 0 31 = nI (en isD b t p) ∧ r.2 = vl b p (min (en isD b t p - p) 5) ∧
    r.1.1 11 0 32 = if en isD b t p = p then flt (σ.1 11 0 32) 0 p else if 5 < en isD b t p - p then flt (σ.1 11 0 32) 1 p else σ.1 11 0 32) := by
  have ht := h.1
  have hs := en_spec isD_m1 b t p
  have hs2 := hs.2.1 hpt
  unfold d_X11_digits
  refine zwp_to (zwp_eq.mpr (x11_isDigit h hp (by omega))) (fun a ea => ?_)
  rw [ea]
  refine zwp_if (fun e => ?_) (fun e => ?_)
  · rw [b2i_0] at e
    have e1 := en_stop e
    show zwp ((d_X11_fails σ (0 : Int32) (σ.1 11 0 31)).bind fun σ2 => some (σ2, (0 : Int32))) _
    rw [hp]
    obtain ⟨σ', f1, z1, f2, f3⟩ := x11_fails σ 0 p
    refine zwp_to (zwp_eq.mpr f1) (fun a ea => ?_)
    rw [ea]
    refine zwp_some.mpr ⟨z1, by rw [e1, f3, hp], ?_, by rw [if_pos e1, f2]⟩
    rw [e1, Nat.sub_self]; rfl
  · have hd : isD (pk b t p) = true := by
      cases hh : isD (pk b t p) with
      | true => rfl
      | false => rw [hh] at e; exact absurd rfl e
    obtain ⟨hlt, hen⟩ := en_step isD_m1 hd
    have hne : ¬ en isD b t p = p := fun q => by
      have := (en_spec isD_m1 b t (p + 1)).1
      omega
    show zwp ((k_X11_digits_25 j_X11_digits_72 zN) σ (99999 : Int32) (σ.1 11 0 31) (0 : Int32)) _
    rw [hp]
    refine zwp_for (fun f i (a : zH × Int32) => k_X11_digits_25 j_X11_digits_72 f a.1 (99999 : Int32) (nI p) a.2) (fun i a => z31 σ a.1 (p + i) ∧ a.2 = vl b p (min i 5) ∧ p + i ≤ t ∧ en isD b t p = en isD b t (p + i)) _ 0 401 (by omega) (by omega) ?_ ?_ (σ, 0) ⟨z31.rf hp, rfl, hpt, rfl⟩
    · rintro f i ⟨τ, x⟩ hi ⟨i1, i2, i3, i4⟩ IH
      dsimp only at i1 i2 i3 i4 ⊢
      rw [k_X11_digits_25]
      refine zwp_to (zwp_eq.mpr (x11_isDigit (i1.tx h) i1.2.2 (by omega))) (fun a ea => ?_)
      rw [ea]
      have f32 : τ.1 11 0 32 = σ.1 11 0 32 := i1.2.1 11 0 32 (by omega)
      refine zwp_if (fun e => ?_) (fun e => ?_)
      · rw [b2i_0] at e
        rw [en_stop e] at i4
        rw [i4, show p + i - p = i by omega]
        show zwp (j_X11_digits_72 τ (99999 : Int32) (nI p) x) _
        unfold j_X11_digits_72 j_X11_digits_87
        rw [i1.2.2, pk_sub (show p ≤ p + i by omega), show p + i - p = i by omega, if_neg (show ¬ p + i = p by omega)]
        have hr := vl_rng (b := b) (p := p) (min i 5) (by omega) (fun j hj => by
          have := hs.2.2.1 (p + j) (by omega) (by omega)
          rw [pkb_in (by omega)] at this
          exact this)
        have h105 : (10 : Int) ^ (min i 5) ≤ 100000 := by
          have : min i 5 = 0 ∨ min i 5 = 1 ∨ min i 5 = 2 ∨ min i 5 = 3 ∨ min i 5 = 4 ∨ min i 5 = 5 := by omega
          rcases this with q | q | q | q | q | q <;> rw [q] <;> decide
        refine zwp_if (fun c => ?_) (fun c => ?_)
        · rw [show (5 : Int32) = nI 5 from rfl, nI_ltI (by omega) (by omega)] at c
          obtain ⟨σ', f1, z1, f2, f3⟩ := x11_fails τ 1 p
          refine zwp_to (zwp_eq.mpr f1) (fun a ea => ?_)
          rw [ea]
          exact zwp_some.mpr ⟨i1.m2.tr z1, by rw [f3]; exact i1.2.2, i2, by rw [if_pos c, f2, f32]⟩
        · rw [show (5 : Int32) = nI 5 from rfl, nI_ltI (by omega) (by omega)] at c
          rw [if_neg (show ¬ (99999 : Int32) < x by rw [fa_lt, i32_99999, i2]; omega)]
          exact zwp_some.mpr ⟨i1.m2, i1.2.2, i2, by rw [if_neg c, f32]⟩
      · have hdi : isD (pk b t (p + i)) = true := by
          cases hh : isD (pk b t (p + i)) with
          | true => rfl
          | false => rw [hh] at e; exact absurd rfl e
        obtain ⟨hlt2, hen2⟩ := en_step isD_m1 hdi
        have hgo : ∀ v, v = vl b p (min (i + 1) 5) → zwp (j_X11_digits_58 (k_X11_digits_25 j_X11_digits_72 f) τ (99999 : Int32) (nI p) v) _ := fun v hv => by
          unfold j_X11_digits_58
          refine zwp_let.mpr ?_
          rw [i1.2.2, nI_1]
          exact IH (_, v) ⟨i1.up, hv, by omega, by rw [i4, hen2]; rfl⟩
        show zwp (if (τ.1 11 0 31) - nI p < (5 : Int32) then _ else _) _
        rw [i1.2.2, pk_sub (show p ≤ p + i by omega), show p + i - p = i by omega]
        refine zwp_if (fun c => ?_) (fun c => ?_)
        · rw [show (5 : Int32) = nI 5 from rfl, nI_ltI (by omega) (by omega)] at c
          refine zwp_to (zwp_eq.mpr (x11_sign (i1.tx h) i1.2.2 (by omega))) (fun a ea => ?_)
          rw [ea]
          refine hgo _ ?_
          rw [i2, show min i 5 = i by omega, show min (i + 1) 5 = i + 1 by omega, vl, pkb_in hlt2, Int32.mul_comm]
        · rw [show (5 : Int32) = nI 5 from rfl, nI_ltI (by omega) (by omega)] at c
          refine hgo _ ?_
          rw [i2, show min i 5 = 5 by omega, show min (i + 1) 5 = 5 by omega]
    · rintro f ⟨τ, x⟩ ⟨i1, i2, i3, i4⟩
      omega
theorem tk_num {q : Nat} : tkK b t q = 1 ↔ isD (pk b t q) = true := by
  unfold tkK
  by_cases q1 : pk b t q = -1
  · rw [if_pos q1, q1, isD_m1]
    constructor
    · intro h; exact absurd h (by decide)
    · intro h; cases h
  · rw [if_neg q1]
    cases isD (pk b t q) with
    | true => simp
    | false =>
      cases isW (pk b t q) with
      | true => constructor <;> intro h <;> exact absurd h (by decide)
      | false => constructor <;> intro h <;> exact absurd h (by decide)
theorem num_both {σc σm : zH} {p : Nat} {f : Int32} (hc : txc b t σc) (hm : txm b t σm) (fc : σc.1 7 0 5 = f) (fm : σm.1 11 0 32 = f) (pm : σm.1 11 0 31 = nI p) (hpt : p ≤ t) (pc : f = 0 → σc.1 7 0 1 = nI p) (lo hi lo' hi' : Int32) (hlo : f = 0 → lo' = lo ∧ hi' = hi ∧ 0 ≤ lo.toInt) :
    ∃ σc' vc σm' vm p' f', d_X1_number σc lo hi = some (σc', vc) ∧ d_X11_amount σm lo' hi' = some (σm', vm) ∧ z7 σc σc' ∧ zm2 σm σm' ∧ σc'.1 7 0 5 = f' ∧ σm'.1 11 0 32 = f' ∧ σm'.1 11 0 31 = nI p' ∧ p' ≤ t ∧ (f' = 0 → f = 0 ∧ σc'.1 7 0 1 = nI p' ∧ vc = vm ∧ lo ≤ vc ∧ vc ≤ hi) ∧ (0 ≤ f.toInt → 0 ≤ f'.toInt) := by
  have ht := hc.1
  unfold d_X1_number d_X11_amount d_X7_failed
  obtain ⟨m1, e1, z1⟩ := x11_blanks hm pm hpt
  have hq := en_spec isB_m1 b t p
  have nx : f = 0 → zwp (d_X7_next σc) (fun σ' => z7 σc σ' ∧ σ'.1 7 0 5 = σc.1 7 0 5 ∧ tkn b t (en isB b t p) σ') := fun hf => x7_next hc (pc hf) hpt
  generalize en isB b t p = q at hq z1 nx
  have hqt := hq.2.1 hpt
  have m32 : m1.1 11 0 32 = f := by rw [z1.2.1 11 0 32 (by omega)]; exact fm
  by_cases hf : f = 0
  · obtain ⟨l1, l2, l3⟩ := hlo hf
    subst l1
    subst l2
    obtain ⟨c1, e2, z2, n2, k2, k3, k4, k1⟩ := nx hf
    rw [if_pos (by rw [fc]; exact hf), e1]
    simp only [Option.bind_some, if_true]
    rw [e2]
    simp only [Option.bind_some]
    rw [k3, m32, if_pos hf]
    obtain ⟨⟨m2, v⟩, e3, z3, p3, v3, f3⟩ := x11_digits (z1.tx hm) z1.2.2 hqt
    dsimp only at z3 p3 v3 f3
    rw [e3]
    simp only [Option.bind_some]
    rw [m32] at f3
    rw [z1.2.2]
    have hs := en_spec isD_m1 b t q
    have hs2 := hs.2.1 hqt
    have zz := z1.m2.tr z3
    have c5 : c1.1 7 0 5 = f := by rw [n2]; exact fc
    by_cases hd : isD (pk b t q) = true
    · obtain ⟨hlt, hen⟩ := en_step isD_m1 hd
      have hne : ¬ en isD b t q = q := fun w => by
        have := (en_spec isD_m1 b t (q + 1)).1
        omega
      rw [if_neg hne] at f3
      have hK : tkK b t q = 1 := tk_num.mpr hd
      have q1 : ¬ pk b t q = -1 := fun w => by rw [w, isD_m1] at hd; cases hd
      have hV : tkV b t q = nuv b t q := by unfold tkV; rw [if_neg q1, if_pos hd]
      have hA : tkA b t q = en isD b t q := by unfold tkA; rw [if_neg q1, if_pos hd]
      rw [if_pos hK, k4, hV]
      have bad : ∀ w, ∃ σ', j_X1_number_62 c1 w = some (σ', w) ∧ z7 σc σ' ∧ σ'.1 7 0 5 = flt f 1 q := fun w => by
        obtain ⟨c2, g1, g2, g3, g4⟩ := x7_fail k2 1
        refine ⟨c2, ?_, z2.tr g2, by rw [g3, c5]⟩
        unfold j_X1_number_62
        rw [g1]
        rfl
      obtain ⟨cb, b1, b2, b3⟩ := bad lo'
      have n1 : ¬ flt f 1 q = 0 := flt_n0 (by omega) (by decide) (by decide)
      by_cases h5 : 5 < en isD b t q - q
      · rw [if_pos h5] at f3
        have hn : nuv b t q = -1 := by unfold nuv; rw [if_neg (by omega)]
        rw [hn, if_pos (show (-1 : Int32) < lo' by rw [fa_lt, i32_m1]; omega), b1]
        unfold j_X11_amount_26
        rw [if_neg (by rw [f3]; exact n1)]
        exact ⟨_, _, _, _, _, flt f 1 q, rfl, rfl, b2, zz, b3, f3, p3, hs2, fun w => absurd w n1, flt_nn (by omega) (by decide) (by decide)⟩
      · rw [if_neg h5] at f3
        have hn : nuv b t q = v := by
          unfold nuv
          rw [if_pos (by omega), v3, show min (en isD b t q - q) 5 = en isD b t q - q by omega]
        rw [hn]
        unfold j_X11_amount_26
        have f30 : m2.1 11 0 32 = 0 := f3.trans hf
        rw [if_pos f30, in_32]
        simp only [Option.bind_some]
        obtain ⟨m3, w1, w2, w3, w4⟩ := x11_fails m2 1 q
        by_cases h1 : v < lo'
        · rw [if_pos h1, b1, decide_eq_true h1, if_pos (show b2i (!true && !decide (hi' < v)) = 0 from rfl), w1]
          simp only [Option.bind_some]
          exact ⟨_, _, _, _, _, flt f 1 q, rfl, rfl, b2, zz.tr w2, b3, by rw [w3, f3], by rw [w4]; exact p3, hs2, fun w => absurd w n1, flt_nn (by omega) (by decide) (by decide)⟩
        · rw [if_neg h1, decide_eq_false h1]
          by_cases h2 : hi' < v
          · rw [if_pos h2, b1, decide_eq_true h2, if_pos (show b2i (!false && !true) = 0 from rfl), w1]
            simp only [Option.bind_some]
            exact ⟨_, _, _, _, _, flt f 1 q, rfl, rfl, b2, zz.tr w2, b3, by rw [w3, f3], by rw [w4]; exact p3, hs2, fun w => absurd w n1, flt_nn (by omega) (by decide) (by decide)⟩
          · rw [if_neg h2, decide_eq_false h2, if_neg (show ¬ b2i (!false && !false) = 0 by decide)]
            exact ⟨_, _, _, _, _, f, rfl, rfl, z2, zz, c5, f3, p3, hs2, fun _ => ⟨hf, by rw [k1, hA], rfl, not_lt_le h1, not_lt_le h2⟩, fun w => w⟩
    · have hK : ¬ tkK b t q = 1 := fun w => hd (tk_num.mp w)
      have he : en isD b t q = q := en_stop (by
        cases hh : isD (pk b t q) with
        | false => rfl
        | true => exact absurd hh hd)
      rw [if_pos he] at f3
      have n0 : ¬ flt f 0 q = 0 := flt_n0 (by omega) (by decide) (by decide)
      rw [if_neg hK]
      obtain ⟨c2, g1, g2, g3, g4⟩ := x7_fail k2 0
      rw [g1]
      simp only [Option.bind_some]
      unfold j_X11_amount_26
      rw [if_neg (by rw [f3]; exact n0)]
      exact ⟨_, _, _, _, _, flt f 0 q, rfl, rfl, z2.tr g2, zz, by rw [g3, c5], f3, p3, hs2, fun w => absurd w n0, flt_nn (by omega) (by decide) (by decide)⟩
  · rw [if_neg (by rw [fc]; exact hf), e1]
    simp only [Option.bind_some]
    rw [if_neg i10, if_neg (by rw [m32]; exact hf)]
    unfold j_X11_amount_26
    rw [if_neg (by rw [m32]; exact hf)]
    exact ⟨_, _, _, _, q, f, rfl, rfl, z7.rf, z1.m2, fc, m32, z1.2.2, hqt, fun e => absurd e hf, fun w => w⟩
end
