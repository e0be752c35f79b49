/-! THE TEXT: words; what the reference reads it with -/
theorem by256 : ∀ n, n < 256 → (isW ((nI n - 128) &&& 255) = (!decide (nI n - 128 < 97) && !decide (122 < nI n - 128))) ∧ (0 ≤ nI n - 128 → (nI n - 128) &&& 255 = nI n - 128) ∧ (nI n - 128 < 0 → 128 ≤ (nI n - 128) &&& 255) ∧ 0 ≤ (nI n - 128) &&& 255 := by decide +kernel
theorem i32_128 : (128 : Int32).toInt = 128 := by decide
theorem by_all {m : Int32} (h1 : -128 ≤ m.toInt) (h2 : m.toInt < 128) : (isW (m &&& 255) = (!decide (m < 97) && !decide (122 < m))) ∧ (0 ≤ m → m &&& 255 = m) ∧ (m < 0 → 128 ≤ m &&& 255) ∧ 0 ≤ m &&& 255 := by
  have e : m = nI (m.toInt + 128).toNat - 128 := by
    rw [fa_eq, fb_subI (by rw [nI_toInt (by omega), i32_128]; omega) (by rw [nI_toInt (by omega), i32_128]; omega), nI_toInt (by omega), i32_128]
    omega
  have := by256 (m.toInt + 128).toNat (by omega)
  rw [← e] at this
  exact this
/-- a word's sign is met alike -/
theorem by_eq2 {m c : Int32} (h1 : -128 ≤ m.toInt) (h2 : m.toInt < 128) (c1 : 0 ≤ c) (c2 : c < 128) : m = c ↔ m &&& 255 = c := by
  obtain ⟨-, a2, a3, -⟩ := by_all h1 h2
  by_cases q : m < 0
  · constructor
    · intro e
      rw [fa_lt, i32_0] at q
      rw [fa_le, i32_0] at c1
      rw [e] at q
      omega
    · intro e
      have := a3 q
      rw [e, fa_le] at this
      rw [fa_lt] at c2
      omega
  · rw [a2 (fa_of_nlt q)]
theorem word_ok : ∀ e, e < 36 → 0 < zsN e ∧ zsN e ≤ 7 ∧ ∀ k, k < zsN e → 0 ≤ zsC e k ∧ zsC e k < 128 := by decide +kernel
/-- the word e stands at q -/
def wrd (b : Nat → Int32) (t q e : Nat) : Bool := decide (en isW b t q - q = zsN e) && !qany (fun k => !decide (b (q + k) = zsC e k)) (zsN e)
def txm (b : Nat → Int32) (t : Nat) (σ : zH) : Prop := t ≤ 400 ∧ σ.1 11 0 30 = nI t ∧ ∀ i, i < t → σ.1 70 0 i &&& 255 = b i ∧ -128 ≤ (σ.1 70 0 i).toInt ∧ (σ.1 70 0 i).toInt < 128
theorem txm.mv {b : Nat → Int32} {t : Nat} {σ σ' : zH} (h : txm b t σ) (e1 : σ'.1 11 0 30 = σ.1 11 0 30) (e2 : σ'.1 70 0 = σ.1 70 0) : txm b t σ' := ⟨h.1, by rw [e1]; exact h.2.1, fun i hi => by rw [e2]; exact h.2.2 i hi⟩
theorem txm.b0 {b : Nat → Int32} {t : Nat} {σ : zH} (h : txm b t σ) {i : Nat} (hi : i < t) : ¬ b i = -1 := fun e => by
  obtain ⟨a1, a2, a3⟩ := h.2.2 i hi
  have := (by_all a2 a3).2.2.2
  rw [a1, e, fa_le, i32_0, i32_m1] at this
  omega
section
variable {b : Nat → Int32} {t : Nat} {σ : zH}
theorem pk_isW (h : txm b t σ) {i : Nat} (hi : i < t) : isW (pk b t i) = (!decide (σ.1 70 0 i < 97) && !decide (122 < σ.1 70 0 i)) := by
  obtain ⟨a1, a2, a3⟩ := h.2.2 i hi
  rw [pkb_in hi, ← a1]
  exact (by_all a2 a3).1
/-- class: words and signs asked for -/
theorem x7_isWord {q : Nat} (h : txc b t σ) (ht : tkn b t q σ) (hqt : q ≤ t) (e : Nat) (he : e < 36) : d_X7_isWord σ e = some (σ, b2i (wrd b t q e)) := by
  have h400 := h.1
  obtain ⟨w0, w7, -⟩ := word_ok e he
  obtain ⟨g2, g3, g4, g1⟩ := ht
  have hs := en_spec isW_m1 b t q
  have hs2 := hs.2.1 hqt
  unfold d_X7_isWord
  rw [g3, g4]
  by_cases k : tkK b t q = 2
  · rw [if_pos k]
    have hK : pk b t q ≠ -1 ∧ isD (pk b t q) = false ∧ isW (pk b t q) = true := by
      unfold tkK at k
      by_cases q1 : pk b t q = -1
      · rw [if_pos q1] at k; exact absurd k (by decide)
      · rw [if_neg q1] at k
        cases q2 : isD (pk b t q) with
        | true => rw [q2, if_pos rfl] at k; exact absurd k (by decide)
        | false =>
          rw [q2] at k
          cases q3 : isW (pk b t q) with
          | true => exact ⟨q1, rfl, rfl⟩
          | false => rw [q3] at k; exact absurd k (by decide)
    have hV : tkV b t q = nI (en isW b t q - q) := by
      unfold tkV
      rw [if_neg hK.1, hK.2.1, hK.2.2]; rfl
    rw [hV, show Int32.ofNat (zsN e) = nI (zsN e) from rfl]
    by_cases l : en isW b t q - q = zsN e
    · rw [if_pos (by rw [l])]
      rw [← zwp_eq, nI_c0]
      have hw : wrd b t q e = !qany (fun k => !decide (b (q + k) = zsC e k)) (zsN e) := by unfold wrd; rw [decide_eq_true l, Bool.true_and]
      rw [hw]
      refine zwp_for (fun f i (_ : Unit) => k_X7_isWord_23 f σ e (nI i)) (fun i _ => qany (fun k => !decide (b (q + k) = zsC e k)) i = false) _ 0 (zsN e) (by omega) (by omega) ?_ ?_ () rfl
      · intro f i _ hi hI IH
        rw [k_X7_isWord_23, show Int32.ofNat (zsN e) = nI (zsN e) from rfl, if_pos (nI_lt hi (by omega)), g2, show nI q + nI i = nI (q + i) from nI_add q i, if_pos (show nI (q + i) < (400 : Int32) from nI_lt (b := 400) (by omega) (by omega)), ix_nI (by omega) (by omega), ix_nI hi (by omega), h.2.2 (q + i) (by omega), nI_1]
        refine zwp_if (fun c => IH () (by rw [qany, hI, decide_eq_true c]; rfl)) (fun c => zwp_some.mpr ?_)
        rw [qany_of (p := fun k => !decide (b (q + k) = zsC e k)) hi (by show (!decide (b (q + i) = zsC e i)) = true; rw [decide_eq_false c]; rfl)]
        rfl
      · intro f _ hI
        rw [k_X7_isWord_23, show Int32.ofNat (zsN e) = nI (zsN e) from rfl, if_neg (nI_nlt (Nat.le_refl _) (by omega))]
        exact zwp_some.mpr (by rw [hI]; rfl)
    · rw [if_neg (fun c => l ((nI_eq (by omega) (by omega)).mp c))]
      unfold wrd
      rw [decide_eq_false l]; rfl
  · rw [if_neg k]
    have hz : isW (pk b t q) = false := by
      cases q3 : isW (pk b t q) with
      | false => rfl
      | true =>
        exfalso
        refine k ?_
        have q1 : pk b t q ≠ -1 := fun c => by rw [c, isW_m1] at q3; cases q3
        have q2 : isD (pk b t q) = false := by
          cases q4 : isD (pk b t q) with
          | false => rfl
          | true =>
            have a := isD_rng q4
            unfold isW at q3
            rw [Bool.and_eq_true] at q3
            have : ¬ pk b t q < 97 := fun c => by rw [decide_eq_true c] at q3; exact absurd q3.1 (by decide)
            rw [fa_lt, show (97 : Int32).toInt = 97 by decide] at this
            omega
        unfold tkK
        rw [if_neg q1, q2, q3]; rfl
    unfold wrd
    rw [en_stop hz, Nat.sub_self, decide_eq_false (show ¬ 0 = zsN e by omega)]; rfl
theorem x7_isSign (h : txc b t σ) (x : Int32) {q : Nat} (ht : tkn b t q σ) : d_X7_isSign σ x = some (σ, b2i (decide (tkK b t q = 3) && decide (tkV b t q = x))) := by
  unfold d_X7_isSign
  rw [ht.2.1, ht.2.2.1]
  by_cases k : tkK b t q = 3
  · rw [if_pos k, decide_eq_true k]
    by_cases v : tkV b t q = x
    · rw [if_pos v, decide_eq_true v]; rfl
    · rw [if_neg v, decide_eq_false v]; rfl
  · rw [if_neg k, decide_eq_false k]; rfl
/-- the reference -/
theorem x11_sign (h : txm b t σ) {p : Nat} (hp : σ.1 11 0 31 = nI p) (h31 : p < 2 ^ 31) : d_X11_sign σ = some (σ, pk b t p) := by
  have ht := h.1
  unfold d_X11_sign
  rw [hp, h.2.1]
  by_cases q : p < t
  · rw [if_pos (nI_lt q (by omega)), ix_nI (by omega) (by omega), (h.2.2 p q).1, pkb_in q]
  · rw [if_neg (nI_nlt (by omega) h31), pkb_end (by omega)]
/-- the reference's place alone has changed -/
def z31 (σ σ' : zH) (p : Nat) : Prop := σ'.2 = σ.2 ∧ (∀ k i j, ¬ (k = 11 ∧ i = 0 ∧ j = 31) → σ'.1 k i j = σ.1 k i j) ∧ σ'.1 11 0 31 = nI p
theorem z31.tx {σ σ' : zH} {p : Nat} (z : z31 σ σ' p) (h : txm b t σ) : txm b t σ' := h.mv (z.2.1 11 0 30 (by omega)) (funext fun j => z.2.1 70 0 j (by omega))
theorem z31.up {σ σ' : zH} {p q : Nat} (z : z31 σ σ' p) : z31 σ (uI σ' 11 0 31 (nI q)) q := ⟨z.1, fun k i j hk => by rw [uI_1, if_neg hk]; exact z.2.1 k i j hk, by rw [uI_1, if_pos ⟨rfl, rfl, rfl⟩]⟩
theorem z31.rf {σ : zH} {p : Nat} (hp : σ.1 11 0 31 = nI p) : z31 σ σ p := ⟨rfl, fun _ _ _ _ => rfl, hp⟩
theorem x11_blanks (h : txm b t σ) {p : Nat} (hp : σ.1 11 0 31 = nI p) (hpt : p ≤ t) : zwp (d_X11_blanks σ) (fun σ' => z31 σ σ' (en isB b t p)) := by
  have ht := h.1
  unfold d_X11_blanks
  refine zwp_for (fun f i (τ : zH) => k_X11_blanks_0 f τ) (fun i τ => z31 σ τ (p + i) ∧ p + i ≤ t ∧ en isB b t p = en isB b t (p + i)) _ 0 400 (by omega) (by omega) ?_ ?_ σ ⟨z31.rf hp, hpt, rfl⟩
  · rintro f i τ hi ⟨i1, i2, i3⟩ IH
    rw [k_X11_blanks_0]
    refine zwp_to (zwp_eq.mpr (x11_sign (i1.tx h) i1.2.2 (by omega))) (fun a e => ?_)
    rw [e]
    refine zwp_if (fun e => ?_) (fun e => zwp_some.mpr ?_)
    · obtain ⟨hlt, hen⟩ := en_step isB_m1 (show isB (pk b t (p + i)) = true from decide_eq_true e)
      refine zwp_let.mpr ?_
      rw [i1.2.2, nI_1]
      exact IH _ ⟨i1.up, by omega, by rw [i3, hen]; rfl⟩
    · rw [i3, en_stop (show isB (pk b t (p + i)) = false from decide_eq_false e)]; exact i1
  · rintro f τ ⟨i1, i2, i3⟩
    rw [k_X11_blanks_0]
    refine zwp_to (zwp_eq.mpr (x11_sign (i1.tx h) i1.2.2 (by omega))) (fun a e => ?_)
    rw [e]
    have e2 : isB (pk b t (p + 400)) = false := by rw [pkb_end (by omega), isB_m1]
    refine zwp_if (fun c => ?_) (fun c => zwp_some.mpr ?_)
    · exact absurd (show isB (pk b t (p + 400)) = true from decide_eq_true c) (by rw [e2]; decide)
    · rw [i3, en_stop e2]; exact i1
theorem x11_isDigit (h : txm b t σ) {p : Nat} (hp : σ.1 11 0 31 = nI p) (h31 : p < 2 ^ 31) : d_X11_isDigit σ = some (σ, b2i (isD (pk b t p))) := by
  unfold d_X11_isDigit
  rw [x11_sign h hp h31]
  simp only [Option.bind_some]
  rw [show (48 : Int64) = (48 : Int32).toInt64 from rfl, show (57 : Int64) = (57 : Int32).toInt64 from rfl, in_32]
  simp only [Option.bind_some]
  exact tv_01 (b2i_01 _)
theorem x11_stood (h : txm b t σ) {p : Nat} (hp : σ.1 11 0 31 = nI p) (hpt : p ≤ t) (e : Nat) (he : e < 36) : d_X11_stood σ e = some (σ, b2i (wrd b t p e)) := by
  have h400 := h.1
  obtain ⟨w0, w7, wc⟩ := word_ok e he
  have hs := en_spec isW_m1 b t p
  have hs2 := hs.2.1 hpt
  have hN : Int32.ofNat (zsN e) = nI (zsN e) := rfl
  rw [← zwp_eq]
  unfold d_X11_stood
  rw [hp]
  have fin : ∀ i, en isW b t p = i → zwp (j_X11_stood_41 σ e (nI i)) (fun a => a = (σ, b2i (wrd b t p e))) := fun i hi => by
    have h1 := hs.1
    rw [hi] at h1
    have go : ∀ l, l = decide (en isW b t p - p = zsN e) → zwp (j_X11_stood_59 σ e (b2i l)) (fun a => a = (σ, b2i (wrd b t p e))) := fun l hl => by
      unfold j_X11_stood_59
      rw [show k_X11_stood_63 zN σ e (b2i l) (0 : Int32) = k_X11_stood_63 zN σ e (b2i l) (nI 0) by rw [nI_0]]
      refine zwp_for (fun f k (x : Bool) => k_X11_stood_63 f σ e (b2i x) (nI k)) (fun k x => x = (l && !qany (fun k => !decide (b (p + k) = zsC e k)) k)) _ 0 (zsN e) (by omega) (by omega) ?_ ?_ l (by rw [qany]; simp)
      · rintro f k x hk rfl IH
        rw [k_X11_stood_63, hN, if_pos (nI_lt hk (by omega))]
        generalize hx : (l && !qany (fun k => !decide (b (p + k) = zsC e k)) k) = x
        cases x with
        | false =>
          rw [if_pos (show b2i false = 0 from rfl), tv_01 (b2i_01 _)]
          refine zwp_some.mpr (congrArg (fun v => (σ, b2i v)) ?_)
          unfold wrd
          rw [← hl]
          rw [Bool.and_eq_false_iff] at hx
          rcases hx with hx | hx
          · rw [hx]; rfl
          · have hx2 : qany (fun k => !decide (b (p + k) = zsC e k)) k = true := by
              cases hh : qany (fun k => !decide (b (p + k) = zsC e k)) k with
              | true => rfl
              | false => rw [hh] at hx; exact absurd hx (by decide)
            obtain ⟨j, hj, hj2⟩ := qany_ex hx2
            rw [qany_of (show j < zsN e by omega) hj2, Bool.not_true, Bool.and_false]
        | true =>
          rw [Bool.and_eq_true] at hx
          have hl1 : en isW b t p - p = zsN e := of_decide_eq_true (by rw [← hl]; exact hx.1)
          have hnq : qany (fun k => !decide (b (p + k) = zsC e k)) k = false := by
            cases hh : qany (fun k => !decide (b (p + k) = zsC e k)) k with
            | false => rfl
            | true => rw [hh] at hx; exact absurd hx.2 (by decide)
          obtain ⟨a1, a2, a3⟩ := h.2.2 (p + k) (by omega)
          rw [if_neg (show ¬ b2i true = 0 by decide), hp, show nI p + nI k = nI (p + k) from nI_add p k, ix_nI (by omega) (by omega), ix_nI hk (by omega)]
          unfold j_X11_stood_102
          rw [nI_1]
          have hc := by_eq2 a2 a3 (wc k hk).1 (wc k hk).2
          rw [a1] at hc
          refine zwp_if (fun c => IH true ?_) (fun c => IH false ?_)
          · rw [qany, hnq, hx.1, decide_eq_true (hc.mp c)]; rfl
          · rw [qany, hnq, hx.1, decide_eq_false (fun q => c (hc.mpr q))]; rfl
      · rintro f x rfl
        rw [k_X11_stood_63, hN, if_neg (nI_nlt (Nat.le_refl _) (by omega)), tv_01 (b2i_01 _)]
        refine zwp_some.mpr ?_
        unfold wrd
        rw [← hl]
    unfold j_X11_stood_41
    rw [hp, pk_sub h1, hN]
    refine zwp_if (fun c => go true ?_) (fun c => go false ?_)
    · rw [hi]; exact (decide_eq_true ((nI_eq (by omega) (by omega)).mp c)).symm
    · rw [hi]; exact (decide_eq_false (fun q => c (by rw [q]))).symm
  refine zwp_for (fun f i (_ : Unit) => k_X11_stood_5 j_X11_stood_41 f σ e (nI i)) (fun i _ => p ≤ i ∧ en isW b t p = en isW b t i) _ p t (by omega) hpt ?_ ?_ () ⟨Nat.le_refl _, rfl⟩
  · rintro f i _ hi ⟨i1, i2⟩ IH
    have hw := pk_isW h hi
    rw [k_X11_stood_5, h.2.1, if_pos (nI_lt hi (by omega)), ix_nI (by omega) (by omega), ix_nI (by omega) (by omega), nI_1]
    refine zwp_if (fun c => fin i ?_) (fun c => ?_)
    · rw [i2, en_stop]
      rw [hw, decide_eq_true c]; rfl
    · refine zwp_if (fun c2 => fin i ?_) (fun c2 => ?_)
      · rw [i2, en_stop]
        rw [hw, decide_eq_true c2]; simp
      · obtain ⟨hlt, hen⟩ := en_step isW_m1 (show isW (pk b t i) = true by rw [hw, decide_eq_false c, decide_eq_false c2]; rfl)
        exact IH () ⟨by omega, by rw [i2, hen]⟩
  · rintro f _ ⟨i1, i2⟩
    rw [k_X11_stood_5, h.2.1, if_neg (nI_nlt (Nat.le_refl _) (by omega))]
    refine fin t ?_
    rw [i2, en_stop]
    rw [pkb_end (Nat.le_refl _), isW_m1]
end
