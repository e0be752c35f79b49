/-! THE TEXT: what both read, the class's scanner -/
/-- the byte at p, -1 past the end -/
def pk (b : Nat → Int32) (t p : Nat) : Int32 := if p < t then b p else -1
def isB (x : Int32) : Bool := decide (x = 32)
def isD (x : Int32) : Bool := !decide (x < 48) && !decide (57 < x)
def isW (x : Int32) : Bool := !decide (x < 97) && !decide (122 < x)
theorem isB_m1 : isB (-1) = false := by decide
theorem isD_m1 : isD (-1) = false := by decide
theorem isW_m1 : isW (-1) = false := by decide
/-- how far a run of c reaches from p -/
def rn (c : Int32 → Bool) (b : Nat → Int32) (t : Nat) : Nat → Nat → Nat
  | 0, p => p
  | d + 1, p => if c (pk b t p) then rn c b t d (p + 1) else p
def en (c : Int32 → Bool) (b : Nat → Int32) (t p : Nat) : Nat := rn c b t (t - p) p
theorem pkb_end {b : Nat → Int32} {t p : Nat} (h : t ≤ p) : pk b t p = -1 := if_neg (by omega)
theorem pkb_in {b : Nat → Int32} {t p : Nat} (h : p < t) : pk b t p = b p := if_pos h
theorem en_step {c : Int32 → Bool} (hc : c (-1) = false) {b : Nat → Int32} {t p : Nat} (h : c (pk b t p) = true) : p < t ∧ en c b t p = en c b t (p + 1) := by
  have hp : p < t := by
    by_cases q : p < t
    · exact q
    · rw [pkb_end (by omega), hc] at h; cases h
  refine ⟨hp, ?_⟩
  unfold en
  obtain ⟨d, hd⟩ : ∃ d, t - p = d + 1 := ⟨t - p - 1, by omega⟩
  rw [hd, rn, if_pos h, show t - (p + 1) = d by omega]
theorem en_stop {c : Int32 → Bool} {b : Nat → Int32} {t p : Nat} (h : c (pk b t p) = false) : en c b t p = p := by
  unfold en
  cases t - p with
  | zero => rfl
  | succ d => rw [rn, h]; rfl
theorem rn_spec {c : Int32 → Bool} (hc : c (-1) = false) {b : Nat → Int32} {t : Nat} : ∀ d p, t - p ≤ d → p ≤ rn c b t d p ∧ (p ≤ t → rn c b t d p ≤ t) ∧ (∀ j, p ≤ j → j < rn c b t d p → c (pk b t j) = true) ∧ c (pk b t (rn c b t d p)) = false
  | 0, p, h => ⟨Nat.le_refl _, fun q => q, fun j h1 h2 => by rw [rn] at h2; omega, by rw [rn, pkb_end (by omega), hc]⟩
  | d + 1, p, h => by
    rw [rn]
    by_cases e : c (pk b t p) = true
    · rw [if_pos e]
      obtain ⟨a1, a2, a3, a4⟩ := rn_spec hc (b := b) (t := t) d (p + 1) (by omega)
      have hp := (en_step hc e).1
      refine ⟨by omega, fun _ => a2 hp, fun j h1 h2 => ?_, a4⟩
      by_cases q : j = p
      · rw [q]; exact e
      · exact a3 j (by omega) h2
    · rw [if_neg e]
      refine ⟨Nat.le_refl _, fun q => q, fun j h1 h2 => by omega, ?_⟩
      cases hh : c (pk b t p) with
      | false => rfl
      | true => exact absurd hh e
theorem en_spec {c : Int32 → Bool} (hc : c (-1) = false) (b : Nat → Int32) (t p : Nat) : p ≤ en c b t p ∧ (p ≤ t → en c b t p ≤ t) ∧ (∀ j, p ≤ j → j < en c b t p → c (pk b t j) = true) ∧ c (pk b t (en c b t p)) = false := rn_spec hc _ _ (Nat.le_refl _)
/-- the first k digits from p, as a number -/
def vl (b : Nat → Int32) (p : Nat) : Nat → Int32
  | 0 => 0
  | k + 1 => vl b p k * 10 + b (p + k) - 48
theorem i32_10 : (10 : Int32).toInt = 10 := by decide
theorem i32_48 : (48 : Int32).toInt = 48 := by decide
theorem i32_57 : (57 : Int32).toInt = 57 := by decide
theorem isD_rng {x : Int32} (h : isD x = true) : 48 ≤ x.toInt ∧ x.toInt ≤ 57 := by
  unfold isD at h
  rw [Bool.and_eq_true] at h
  have h1 : ¬ x < 48 := fun q => by rw [decide_eq_true q] at h; exact absurd h.1 (by decide)
  have h2 : ¬ 57 < x := fun q => by rw [decide_eq_true q] at h; exact absurd h.2 (by decide)
  rw [fa_lt, i32_48] at h1
  rw [fa_lt, i32_57] at h2
  omega
theorem vl_rng {b : Nat → Int32} {p : Nat} : ∀ k, k ≤ 5 → (∀ j, j < k → isD (b (p + j)) = true) → 0 ≤ (vl b p k).toInt ∧ (vl b p k).toInt < 10 ^ k
  | 0, _, _ => by rw [vl, i32_0]; decide
  | k + 1, hk, h => by
    have a := vl_rng k (by omega) (fun j hj => h j (by omega))
    have d := isD_rng (h k (by omega))
    have hp : (10 : Int) ^ k ≤ 10000 := by
      have : k = 0 ∨ k = 1 ∨ k = 2 ∨ k = 3 ∨ k = 4 := by omega
      rcases this with rfl | rfl | rfl | rfl | rfl <;> decide
    have e1 : (vl b p k * 10).toInt = (vl b p k).toInt * 10 := by rw [fb_mulI (by rw [i32_10]; omega) (by rw [i32_10]; omega), i32_10]
    have e2 : (vl b p k * 10 + b (p + k)).toInt = (vl b p k).toInt * 10 + (b (p + k)).toInt := by rw [fb_addI (by rw [e1]; omega) (by rw [e1]; omega), e1]
    have e3 : (vl b p k * 10 + b (p + k) - 48).toInt = (vl b p k).toInt * 10 + (b (p + k)).toInt - 48 := by rw [fb_subI (by rw [e2, i32_48]; omega) (by rw [e2, i32_48]; omega), e2, i32_48]
    rw [vl, e3, Int.pow_succ]
    omega
/-- the token at q: its kind, value and end -/
def nuv (b : Nat → Int32) (t q : Nat) : Int32 := if en isD b t q - q ≤ 5 then vl b q (en isD b t q - q) else -1
def sgV (b : Nat → Int32) (t q : Nat) : Int32 := if pk b t (q + 1) = 61 then (if pk b t q = 60 then 256 else if pk b t q = 62 then 257 else pk b t q) else pk b t q
def sgA (b : Nat → Int32) (t q : Nat) : Nat := if pk b t (q + 1) = 61 then (if pk b t q = 60 then q + 1 + 1 else if pk b t q = 62 then q + 1 + 1 else q + 1) else q + 1
def tkK (b : Nat → Int32) (t q : Nat) : Int32 := if pk b t q = -1 then 0 else if isD (pk b t q) then 1 else if isW (pk b t q) then 2 else 3
def tkV (b : Nat → Int32) (t q : Nat) : Int32 := if pk b t q = -1 then -1 else if isD (pk b t q) then nuv b t q else if isW (pk b t q) then nI (en isW b t q - q) else sgV b t q
def tkA (b : Nat → Int32) (t q : Nat) : Nat := if pk b t q = -1 then q else if isD (pk b t q) then en isD b t q else if isW (pk b t q) then en isW b t q else sgA b t q
def txc (b : Nat → Int32) (t : Nat) (σ : zH) : Prop := t ≤ 400 ∧ σ.1 9 0 1 = nI t ∧ ∀ i, i < t → σ.1 37 0 i = b i
theorem txc.mv {b : Nat → Int32} {t : Nat} {σ σ' : zH} (h : txc b t σ) (e1 : σ'.1 9 0 1 = σ.1 9 0 1) (e2 : σ'.1 37 0 = σ.1 37 0) : txc b t σ' := ⟨h.1, by rw [e1]; exact h.2.1, fun i hi => by rw [e2]; exact h.2.2 i hi⟩
theorem x7_peek {b : Nat → Int32} {t p : Nat} {σ : zH} (h : txc b t σ) (hp : σ.1 7 0 1 = nI p) (h31 : p < 2 ^ 31) : d_X7_peek σ = some (σ, pk b t p) := by
  have ht := h.1
  unfold d_X7_peek
  rw [hp, if_neg (nI_nneg h31), h.2.1]
  by_cases q : p < t
  · rw [if_pos (nI_lt q (by omega)), if_pos (show nI p < (400 : Int32) from nI_lt (b := 400) (by omega) (by omega)), ix_nI (by omega) (by omega), h.2.2 p q, pkb_in q]
  · rw [if_neg (nI_nlt (by omega) h31), pkb_end (by omega)]
/-- what the scanner's steps leave, but its own -/
def z7 (σ σ' : zH) : Prop := zsm (fun k _ => k = 7) σ σ'
theorem z7.tx {b : Nat → Int32} {t : Nat} {σ σ' : zH} (h : txc b t σ) (z : z7 σ σ') : txc b t σ' := h.mv (by rw [(z 9 0 (by omega)).1]) (z 37 0 (by omega)).1
theorem z7.rf {σ : zH} : z7 σ σ := zsm.rf
theorem z7.uI {σ σ' : zH} (z : z7 σ σ') (j : Nat) (x : Int32) : z7 σ (uI σ' 7 0 j x) := zsm.uI z rfl j x
theorem x7_u (σ : zH) (j : Nat) (x : Int32) (j' : Nat) : (uI σ 7 0 j x).1 7 0 j' = if j' = j then x else σ.1 7 0 j' := by
  rw [uI_1]
  by_cases e : j' = j
  · rw [if_pos ⟨rfl, rfl, e⟩, if_pos e]
  · rw [if_neg (by omega), if_neg e]
section
variable {b : Nat → Int32} {t : Nat} {σ : zH}
theorem x7_readNumber {q : Nat} (h : txc b t σ) (hp : σ.1 7 0 1 = nI q) (hq : q ≤ t) : zwp (d_X7_readNumber σ) (fun σ' => z7 σ σ' ∧ σ'.1 7 0 5 = σ.1 7 0 5 ∧ σ'.1 7 0 2 = σ.1 7 0 2 ∧ σ'.1 7 0 3 = 1 ∧ σ'.1 7 0 4 = nuv b t q ∧ σ'.1 7 0 1 = nI (en isD b t q)) := by
  have ht := h.1
  unfold d_X7_readNumber
  refine zwp_let.mpr (zwp_let.mpr ?_)
  rw [nI_c0]
  refine zwp_for (fun f i (τ : zH) => k_X7_readNumber_12 f τ (nI i)) (fun i τ => z7 σ τ ∧ τ.1 7 0 5 = σ.1 7 0 5 ∧ τ.1 7 0 2 = σ.1 7 0 2 ∧ τ.1 7 0 3 = 1 ∧ τ.1 7 0 4 = (if i ≤ 5 then vl b q i else -1) ∧ τ.1 7 0 1 = nI (q + i) ∧ q + i ≤ t ∧ en isD b t q = en isD b t (q + i)) _ 0 400 (by omega) (by omega) ?_ ?_ _ ⟨(z7.rf.uI _ _).uI _ _, by simp [x7_u], by simp [x7_u], by simp [x7_u], by simp [x7_u, vl, nI_0], by simp [x7_u]; exact hp, by omega, rfl⟩
  · rintro f i τ hi ⟨i1, i2, i3, i4, i5, i6, i7, i8⟩ IH
    have pp := x7_peek (i1.tx h) i6 (by omega)
    rw [k_X7_readNumber_12, if_pos (show nI i < (400 : Int32) from nI_lt (b := 400) hi (by omega)), pp]
    simp only [Option.bind_some]
    have hend : isD (pk b t (q + i)) = false → z7 σ τ ∧ τ.1 7 0 5 = σ.1 7 0 5 ∧ τ.1 7 0 2 = σ.1 7 0 2 ∧ τ.1 7 0 3 = 1 ∧ τ.1 7 0 4 = nuv b t q ∧ τ.1 7 0 1 = nI (en isD b t q) := fun e => by
      rw [en_stop e] at i8
      refine ⟨i1, i2, i3, i4, ?_, by rw [i8]; exact i6⟩
      unfold nuv
      rw [i8, show q + i - q = i by omega]; exact i5
    refine zwp_if (fun e => zwp_some.mpr (hend (by unfold isD; rw [decide_eq_true e]; rfl))) (fun e => ?_)
    rw [pp]
    simp only [Option.bind_some]
    refine zwp_if (fun e2 => zwp_some.mpr (hend (by unfold isD; rw [decide_eq_true e2]; simp))) (fun e2 => ?_)
    have hd : isD (pk b t (q + i)) = true := by unfold isD; rw [decide_eq_false e, decide_eq_false e2]; rfl
    obtain ⟨hlt, hen⟩ := en_step isD_m1 hd
    have hgo : ∀ v, v = (if i + 1 ≤ 5 then vl b q (i + 1) else -1) → zwp (j_X7_readNumber_62 (k_X7_readNumber_12 f) τ (nI i) v) (fun σ' => z7 σ σ' ∧ σ'.1 7 0 5 = σ.1 7 0 5 ∧ σ'.1 7 0 2 = σ.1 7 0 2 ∧ σ'.1 7 0 3 = 1 ∧ σ'.1 7 0 4 = nuv b t q ∧ σ'.1 7 0 1 = nI (en isD b t q)) := fun v hv => by
      unfold j_X7_readNumber_62
      refine zwp_let.mpr (zwp_let.mpr ?_)
      rw [nI_1]
      refine IH _ ⟨(i1.uI _ _).uI _ _, by simp [x7_u, i2], by simp [x7_u, i3], by simp [x7_u, i4], by rw [x7_u, if_neg (by omega), x7_u, if_pos rfl]; exact hv, ?_, by omega, by rw [i8, hen]; rfl⟩
      simp only [x7_u, if_true, show ¬ ((1 : Nat) = 4) by omega, if_false]
      rw [i6, nI_1, Nat.add_assoc]
    refine zwp_if (fun e3 => ?_) (fun e3 => hgo _ ?_)
    · rw [show (5 : Int32) = nI 5 from rfl, nI_ltI (by omega) (by omega)] at e3
      rw [pp]
      simp only [Option.bind_some]
      refine hgo _ ?_
      rw [i5, if_pos (show i ≤ 5 by omega), if_pos (show i + 1 ≤ 5 by omega), vl, pkb_in hlt]
    · rw [show (5 : Int32) = nI 5 from rfl, nI_ltI (by omega) (by omega)] at e3
      rw [if_neg (by omega)]
  · rintro f τ ⟨i1, i2, i3, i4, i5, i6, i7, i8⟩
    rw [k_X7_readNumber_12, if_neg (show ¬ nI 400 < (400 : Int32) from nI_nlt (b := 400) (by omega) (by omega))]
    rw [en_stop (show isD (pk b t (q + 400)) = false by rw [pkb_end (by omega), isD_m1])] at i8
    refine zwp_some.mpr ⟨i1, i2, i3, i4, ?_, by rw [i8]; exact i6⟩
    unfold nuv
    rw [i8, show q + 400 - q = 400 by omega]; exact i5
theorem x7_readWord {q : Nat} (h : txc b t σ) (hp : σ.1 7 0 1 = nI q) (h2 : σ.1 7 0 2 = nI q) (hq : q ≤ t) : zwp (d_X7_readWord σ) (fun σ' => z7 σ σ' ∧ σ'.1 7 0 5 = σ.1 7 0 5 ∧ σ'.1 7 0 2 = σ.1 7 0 2 ∧ σ'.1 7 0 3 = 2 ∧ σ'.1 7 0 4 = nI (en isW b t q - q) ∧ σ'.1 7 0 1 = nI (en isW b t q)) := by
  have ht := h.1
  have hs := en_spec isW_m1 b t q
  unfold d_X7_readWord
  refine zwp_let.mpr ?_
  rw [nI_c0]
  have fin : ∀ τ, (z7 σ τ ∧ τ.1 7 0 5 = σ.1 7 0 5 ∧ τ.1 7 0 2 = σ.1 7 0 2 ∧ τ.1 7 0 3 = 2 ∧ τ.1 7 0 1 = nI (en isW b t q)) → zwp (j_X7_readWord_48 τ) (fun σ' => z7 σ σ' ∧ σ'.1 7 0 5 = σ.1 7 0 5 ∧ σ'.1 7 0 2 = σ.1 7 0 2 ∧ σ'.1 7 0 3 = 2 ∧ σ'.1 7 0 4 = nI (en isW b t q - q) ∧ σ'.1 7 0 1 = nI (en isW b t q)) := fun τ hτ => by
    obtain ⟨a1, a2, a3, a4, a5⟩ := hτ
    unfold j_X7_readWord_48
    refine zwp_let.mpr (zwp_some.mpr ⟨a1.uI _ _, by simp [x7_u, a2], by simp [x7_u, a3], by simp [x7_u, a4], ?_, by simp [x7_u, a5]⟩)
    rw [x7_u, if_pos rfl, a5, a3, h2, pk_sub hs.1]
  refine zwp_for (fun f i (τ : zH) => k_X7_readWord_7 j_X7_readWord_48 f τ (nI i)) (fun i τ => z7 σ τ ∧ τ.1 7 0 5 = σ.1 7 0 5 ∧ τ.1 7 0 2 = σ.1 7 0 2 ∧ τ.1 7 0 3 = 2 ∧ τ.1 7 0 1 = nI (q + i) ∧ q + i ≤ t ∧ en isW b t q = en isW b t (q + i)) _ 0 400 (by omega) (by omega) ?_ ?_ _ ⟨z7.rf.uI _ _, by simp [x7_u], by simp [x7_u], by simp [x7_u], by simp [x7_u]; exact hp, by omega, rfl⟩
  · rintro f i τ hi ⟨i1, i2, i3, i4, i6, i7, i8⟩ IH
    have pp := x7_peek (i1.tx h) i6 (by omega)
    rw [k_X7_readWord_7, if_pos (show nI i < (400 : Int32) from nI_lt (b := 400) hi (by omega)), pp]
    simp only [Option.bind_some]
    have hend : isW (pk b t (q + i)) = false → z7 σ τ ∧ τ.1 7 0 5 = σ.1 7 0 5 ∧ τ.1 7 0 2 = σ.1 7 0 2 ∧ τ.1 7 0 3 = 2 ∧ τ.1 7 0 1 = nI (en isW b t q) := fun e => by
      rw [en_stop e] at i8
      exact ⟨i1, i2, i3, i4, by rw [i8]; exact i6⟩
    refine zwp_if (fun e => fin _ (hend (by unfold isW; rw [decide_eq_true e]; rfl))) (fun e => ?_)
    rw [pp]
    simp only [Option.bind_some]
    refine zwp_if (fun e2 => fin _ (hend (by unfold isW; rw [decide_eq_true e2]; simp))) (fun e2 => ?_)
    have hd : isW (pk b t (q + i)) = true := by unfold isW; rw [decide_eq_false e, decide_eq_false e2]; rfl
    obtain ⟨hlt, hen⟩ := en_step isW_m1 hd
    refine zwp_let.mpr ?_
    rw [nI_1]
    refine IH _ ⟨i1.uI _ _, by simp [x7_u, i2], by simp [x7_u, i3], by simp [x7_u, i4], ?_, by omega, by rw [i8, hen]; rfl⟩
    rw [x7_u, if_pos rfl, i6, nI_1, Nat.add_assoc]
  · rintro f τ ⟨i1, i2, i3, i4, i6, i7, i8⟩
    rw [k_X7_readWord_7, if_neg (show ¬ nI 400 < (400 : Int32) from nI_nlt (b := 400) (by omega) (by omega))]
    rw [en_stop (show isW (pk b t (q + 400)) = false by rw [pkb_end (by omega), isW_m1])] at i8
    exact fin _ ⟨i1, i2, i3, i4, by rw [i8]; exact i6⟩
theorem x7_sign2 {q : Nat} {τ : zH} (zz : z7 σ τ) (a1 : τ.1 7 0 1 = nI (q + 1)) (a2 : τ.1 7 0 2 = σ.1 7 0 2) (a3 : τ.1 7 0 3 = 3) (a5 : τ.1 7 0 5 = σ.1 7 0 5) (v : Int32) : zwp (zlet (uI τ 7 0 4 v) fun σ2 => zlet (uI σ2 7 0 1 ((σ2.1 7 0 1) + (1 : Int32))) fun σ3 => some σ3) (fun σ' => z7 σ σ' ∧ σ'.1 7 0 5 = σ.1 7 0 5 ∧ σ'.1 7 0 2 = σ.1 7 0 2 ∧ σ'.1 7 0 3 = 3 ∧ σ'.1 7 0 4 = v ∧ σ'.1 7 0 1 = nI (q + 1 + 1)) := by
  refine zwp_let.mpr (zwp_let.mpr (zwp_some.mpr ⟨(zz.uI _ _).uI _ _, by simp [x7_u, a5], by simp [x7_u, a2], by simp [x7_u, a3], by simp [x7_u], ?_⟩))
  rw [x7_u, if_pos rfl, x7_u, if_neg (by omega), a1, nI_1]
theorem x7_sign3 {q : Nat} {τ : zH} (h : txc b t σ) (zz : z7 σ τ) (hq : q ≤ t) (a1 : τ.1 7 0 1 = nI (q + 1)) (a2 : τ.1 7 0 2 = σ.1 7 0 2) (a3 : τ.1 7 0 3 = 3) (a4 : τ.1 7 0 4 = pk b t q) (a5 : τ.1 7 0 5 = σ.1 7 0 5) : zwp ((d_X7_peek τ).bind fun p5 =>
  if p5.2 = (61 : Int32) then
    if (p5.1.1 7 0 4) = (60 : Int32) then
      zlet (uI p5.1 7 0 4 (256 : Int32)) fun σ6 =>
      zlet (uI σ6 7 0 1 ((σ6.1 7 0 1) + (1 : Int32))) fun σ7 =>
      some σ7
    else
      j_X7_readSign_61 p5.1
  else
    j_X7_readSign_61 p5.1) (fun σ' => z7 σ σ' ∧ σ'.1 7 0 5 = σ.1 7 0 5 ∧ σ'.1 7 0 2 = σ.1 7 0 2 ∧ σ'.1 7 0 3 = 3 ∧ σ'.1 7 0 4 = sgV b t q ∧ σ'.1 7 0 1 = nI (sgA b t q)) := by
  have ht := h.1
  have pp := x7_peek (zz.tx h) a1 (by omega)
  have two := x7_sign2 zz a1 a2 a3 a5
  unfold sgV sgA j_X7_readSign_61
  rw [pp]
  simp only [Option.bind_some]
  rw [pp]
  simp only [Option.bind_some]
  rw [a4]
  by_cases e : pk b t (q + 1) = 61
  · simp only [if_pos e]
    by_cases e1 : pk b t q = 60
    · simp only [if_pos e1]
      exact two 256
    · simp only [if_neg e1]
      by_cases e2 : pk b t q = 62
      · simp only [if_pos e2]
        exact two 257
      · simp only [if_neg e2]
        exact zwp_some.mpr ⟨zz, a5, a2, a3, a4, a1⟩
  · simp only [if_neg e]
    exact zwp_some.mpr ⟨zz, a5, a2, a3, a4, a1⟩
theorem x7_readSign {q : Nat} (h : txc b t σ) (hp : σ.1 7 0 1 = nI q) (hq : q ≤ t) : zwp (d_X7_readSign σ) (fun σ' => z7 σ σ' ∧ σ'.1 7 0 5 = σ.1 7 0 5 ∧ σ'.1 7 0 2 = σ.1 7 0 2 ∧ σ'.1 7 0 3 = 3 ∧ σ'.1 7 0 4 = sgV b t q ∧ σ'.1 7 0 1 = nI (sgA b t q)) := by
  have ht := h.1
  unfold d_X7_readSign
  have z1 : z7 σ (uI σ 7 0 3 3) := z7.rf.uI _ _
  have h1 : (uI σ 7 0 3 3).1 7 0 1 = nI q := by rw [x7_u, if_neg (by omega)]; exact hp
  have h2 : (uI σ 7 0 3 3).1 7 0 2 = σ.1 7 0 2 := by rw [x7_u, if_neg (by omega)]
  have h3 : (uI σ 7 0 3 3).1 7 0 3 = 3 := by rw [x7_u, if_pos rfl]
  have h5 : (uI σ 7 0 3 3).1 7 0 5 = σ.1 7 0 5 := by rw [x7_u, if_neg (by omega)]
  refine zwp_let.mpr ?_
  generalize uI σ 7 0 3 3 = υ at z1 h1 h2 h3 h5
  refine zwp_to (zwp_eq.mpr (x7_peek (z1.tx h) h1 (by omega))) (fun p e => ?_)
  rw [e]
  refine zwp_let.mpr (zwp_let.mpr ?_)
  have w1 : z7 σ (uI (uI υ 7 0 4 (pk b t q)) 7 0 1 ((uI υ 7 0 4 (pk b t q)).1 7 0 1 + 1)) := (z1.uI _ _).uI _ _
  have g1 : (uI (uI υ 7 0 4 (pk b t q)) 7 0 1 ((uI υ 7 0 4 (pk b t q)).1 7 0 1 + 1)).1 7 0 1 = nI (q + 1) := by rw [x7_u, if_pos rfl, x7_u, if_neg (by omega), h1, nI_1]
  have g2 : (uI (uI υ 7 0 4 (pk b t q)) 7 0 1 ((uI υ 7 0 4 (pk b t q)).1 7 0 1 + 1)).1 7 0 2 = σ.1 7 0 2 := by rw [x7_u, if_neg (by omega), x7_u, if_neg (by omega), h2]
  have g3 : (uI (uI υ 7 0 4 (pk b t q)) 7 0 1 ((uI υ 7 0 4 (pk b t q)).1 7 0 1 + 1)).1 7 0 3 = 3 := by rw [x7_u, if_neg (by omega), x7_u, if_neg (by omega), h3]
  have g4 : (uI (uI υ 7 0 4 (pk b t q)) 7 0 1 ((uI υ 7 0 4 (pk b t q)).1 7 0 1 + 1)).1 7 0 4 = pk b t q := by rw [x7_u, if_neg (by omega), x7_u, if_pos rfl]
  have g5 : (uI (uI υ 7 0 4 (pk b t q)) 7 0 1 ((uI υ 7 0 4 (pk b t q)).1 7 0 1 + 1)).1 7 0 5 = σ.1 7 0 5 := by rw [x7_u, if_neg (by omega), x7_u, if_neg (by omega), h5]
  exact x7_sign3 h w1 hq g1 g2 g3 g4 g5
/-- the scanner stands behind the token at q -/
def tkn (b : Nat → Int32) (t q : Nat) (σ : zH) : Prop := σ.1 7 0 2 = nI q ∧ σ.1 7 0 3 = tkK b t q ∧ σ.1 7 0 4 = tkV b t q ∧ σ.1 7 0 1 = nI (tkA b t q)
theorem x7_next {p : Nat} (h : txc b t σ) (hp : σ.1 7 0 1 = nI p) (hpt : p ≤ t) : zwp (d_X7_next σ) (fun σ' => z7 σ σ' ∧ σ'.1 7 0 5 = σ.1 7 0 5 ∧ tkn b t (en isB b t p) σ') := by
  have ht := h.1
  have hs := en_spec isB_m1 b t p
  generalize hq : en isB b t p = q at hs
  have hqt := hs.2.1 hpt
  have fin : ∀ τ, (z7 σ τ ∧ τ.1 7 0 5 = σ.1 7 0 5 ∧ τ.1 7 0 1 = nI q) → zwp (j_X7_next_34 τ) (fun σ' => z7 σ σ' ∧ σ'.1 7 0 5 = σ.1 7 0 5 ∧ tkn b t q σ') := fun τ hτ => by
    obtain ⟨a1, a2, a3⟩ := hτ
    unfold j_X7_next_34
    refine zwp_let.mpr ?_
    generalize hυ : uI τ 7 0 2 (τ.1 7 0 1) = υ
    have b1 : z7 σ υ := by rw [← hυ]; exact a1.uI _ _
    have b2 : υ.1 7 0 5 = σ.1 7 0 5 := by rw [← hυ]; simp [x7_u, a2]
    have b3 : υ.1 7 0 1 = nI q := by rw [← hυ]; simp [x7_u, a3]
    have b4 : υ.1 7 0 2 = nI q := by rw [← hυ]; simp [x7_u, a3]
    rw [x7_peek (b1.tx h) b3 (by omega)]
    simp only [Option.bind_some]
    refine zwp_if (fun e => ?_) (fun e => ?_)
    · refine zwp_let.mpr (zwp_let.mpr (zwp_some.mpr ⟨(b1.uI _ _).uI _ _, by simp [x7_u, b2], by simp [x7_u, b4], ?_, ?_, ?_⟩))
      · unfold tkK; rw [if_pos e]; simp [x7_u]
      · unfold tkV; rw [if_pos e]; simp [x7_u]
      · unfold tkA; rw [if_pos e]; simp [x7_u, b3]
    · have sg : isD (pk b t q) = false → zwp (j_X7_next_84 υ (pk b t q)) (fun σ' => z7 σ σ' ∧ σ'.1 7 0 5 = σ.1 7 0 5 ∧ tkn b t q σ') := fun eD => by
        have sg2 : isW (pk b t q) = false → zwp (j_X7_next_103 υ) (fun σ' => z7 σ σ' ∧ σ'.1 7 0 5 = σ.1 7 0 5 ∧ tkn b t q σ') := fun eW => by
          unfold j_X7_next_103
          refine zwp_to (x7_readSign (b1.tx h) b3 hqt) (fun σ' g => zwp_some.mpr ?_)
          obtain ⟨g1, g2, g3, g4, g5, g6⟩ := g
          refine ⟨b1.tr g1, g2.trans b2, by rw [g3]; exact b4, ?_, ?_, ?_⟩
          · unfold tkK; rw [if_neg e, eD, eW]; exact g4
          · unfold tkV; rw [if_neg e, eD, eW]; exact g5
          · unfold tkA; rw [if_neg e, eD, eW]; exact g6
        unfold j_X7_next_84
        refine zwp_if (fun e2 => sg2 (by unfold isW; rw [decide_eq_true e2]; rfl)) (fun e2 => ?_)
        refine zwp_if (fun e3 => sg2 (by unfold isW; rw [decide_eq_true e3]; simp)) (fun e3 => ?_)
        have eW : isW (pk b t q) = true := by unfold isW; rw [decide_eq_false e2, decide_eq_false e3]; rfl
        refine zwp_to (x7_readWord (b1.tx h) b3 b4 hqt) (fun σ' g => zwp_some.mpr ?_)
        obtain ⟨g1, g2, g3, g4, g5, g6⟩ := g
        refine ⟨b1.tr g1, g2.trans b2, by rw [g3]; exact b4, ?_, ?_, ?_⟩
        · unfold tkK; rw [if_neg e, eD, eW]; exact g4
        · unfold tkV; rw [if_neg e, eD, eW]; exact g5
        · unfold tkA; rw [if_neg e, eD, eW]; exact g6
      refine zwp_if (fun e2 => sg (by unfold isD; rw [decide_eq_true e2]; rfl)) (fun e2 => ?_)
      refine zwp_if (fun e3 => sg (by unfold isD; rw [decide_eq_true e3]; simp)) (fun e3 => ?_)
      have eD : isD (pk b t q) = true := by unfold isD; rw [decide_eq_false e2, decide_eq_false e3]; rfl
      refine zwp_to (x7_readNumber (b1.tx h) b3 hqt) (fun σ' g => zwp_some.mpr ?_)
      obtain ⟨g1, g2, g3, g4, g5, g6⟩ := g
      refine ⟨b1.tr g1, g2.trans b2, by rw [g3]; exact b4, ?_, ?_, ?_⟩
      · unfold tkK; rw [if_neg e, eD]; exact g4
      · unfold tkV; rw [if_neg e, eD]; exact g5
      · unfold tkA; rw [if_neg e, eD]; exact g6
  unfold d_X7_next
  rw [nI_c0]
  refine zwp_for (fun f i (τ : zH) => k_X7_next_2 j_X7_next_34 f τ (nI i)) (fun i τ => z7 σ τ ∧ τ.1 7 0 5 = σ.1 7 0 5 ∧ τ.1 7 0 1 = nI (p + i) ∧ p + i ≤ t ∧ q = en isB b t (p + i)) _ 0 400 (by omega) (by omega) ?_ ?_ _ ⟨zsm.rf, rfl, hp, hpt, hq.symm⟩
  · rintro f i τ hi ⟨i1, i2, i3, i4, i5⟩ IH
    rw [k_X7_next_2, if_pos (show nI i < (400 : Int32) from nI_lt (b := 400) hi (by omega)), x7_peek (i1.tx h) i3 (by omega)]
    simp only [Option.bind_some]
    refine zwp_if (fun e => ?_) (fun e => fin _ ⟨i1, i2, ?_⟩)
    · obtain ⟨hlt, hen⟩ := en_step isB_m1 (show isB (pk b t (p + i)) = true from decide_eq_true e)
      refine zwp_let.mpr ?_
      rw [nI_1]
      refine IH _ ⟨i1.uI _ _, by simp [x7_u, i2], ?_, by omega, by rw [i5, hen]; rfl⟩
      rw [x7_u, if_pos rfl, i3, nI_1, Nat.add_assoc]
    · rw [i5, en_stop (show isB (pk b t (p + i)) = false from decide_eq_false e)]; exact i3
  · rintro f τ ⟨i1, i2, i3, i4, i5⟩
    rw [k_X7_next_2, if_neg (show ¬ nI 400 < (400 : Int32) from nI_nlt (b := 400) (by omega) (by omega))]
    refine fin _ ⟨i1, i2, ?_⟩
    rw [i5, en_stop (show isB (pk b t (p + 400)) = false by rw [pkb_end (by omega), isB_m1])]; exact i3
end
