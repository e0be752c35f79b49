/-! CALLS: law, the class's reader, one token -/
/-- the class has met a fault -/
def FC (σ1 : zH) (L : Nat) (σ : zH) (f : Int32) : Prop := zsm (Fq L) σ1 σ ∧ σ.1 7 0 5 = f
def vwf (b : Nat → Int32) (t q : Nat) : Nat → Nat → Nat
  | 0, w => w
  | d + 1, w => if wrd b t q (7 + w) = true then w else vwf b t q d (w + 1)
/-- which of the ten words stands at q; 10 if none -/
def vw (b : Nat → Int32) (t q : Nat) : Nat := vwf b t q 10 0
theorem vwf_spec (b : Nat → Int32) (t q : Nat) : ∀ d w, w ≤ vwf b t q d w ∧ vwf b t q d w ≤ w + d ∧ (vwf b t q d w < w + d → wrd b t q (7 + vwf b t q d w) = true)
  | 0, w => by rw [vwf]; exact ⟨by omega, by omega, fun h => by omega⟩
  | d + 1, w => by
    rw [vwf]
    by_cases h : wrd b t q (7 + w) = true
    · rw [if_pos h]; exact ⟨by omega, by omega, fun _ => h⟩
    · rw [if_neg h]
      obtain ⟨a1, a2, a3⟩ := vwf_spec b t q d (w + 1)
      exact ⟨by omega, by omega, fun q => a3 (by omega)⟩
/-- the VALUE at q -/
def vnm (b : Nat → Int32) (t q : Nat) : Option qop := if isD (pk b t q) = true then (if en isD b t q - q ≤ 5 then some (0, vl b q (en isD b t q - q)) else none) else if vw b t q < 10 then some (1, nI (vw b t q)) else none
def vfc (b : Nat → Int32) (t q : Nat) : Int32 := if isD (pk b t q) = true then 1 else 0
theorem isDW {x : Int32} (h : isD x = true) : isW x = false := by
  have := isD_rng h
  unfold isW
  rw [show decide (x < 97) = true from decide_eq_true (by rw [fa_lt, show (97 : Int32).toInt = 97 by decide]; omega)]
  rfl
theorem isW_ne {x : Int32} (h : isW x = true) : x ≠ -1 ∧ isD x = false := by
  refine ⟨fun e => by (rw [e, isW_m1] at h; cases h), ?_⟩
  cases e : isD x with
  | false => rfl
  | true => rw [isDW e] at h; cases h
section
variable {b : Nat → Int32} {t : Nat} {σ1 : zH} {L B : Nat} {σ : zH} {pc q : Nat} {ex sg : Int32} {cnt : Nat} {h : List Nat} {cc : List qop}
theorem wrd_W {e : Nat} (he : e < 36) (hw : wrd b t q e = true) : isW (pk b t q) = true := by
  have h0 := (word_ok e he).1
  unfold wrd at hw
  rw [Bool.and_eq_true] at hw
  have h1 : en isW b t q - q = zsN e := of_decide_eq_true hw.1
  cases q3 : isW (pk b t q) with
  | true => rfl
  | false =>
    rw [en_stop q3, Nat.sub_self] at h1
    omega
theorem wrd_K {e : Nat} (he : e < 36) (hw : wrd b t q e = true) : tkK b t q = 2 := by
  have a := wrd_W he hw
  obtain ⟨a1, a2⟩ := isW_ne a
  unfold tkK
  rw [if_neg a1, a2, a]; rfl
theorem tk_sg {c : Int32} (h : pk b t q = c) (h1 : c ≠ -1) (h2 : isD c = false) (h3 : isW c = false) (h4 : c ≠ 60) (h5 : c ≠ 62) : tkK b t q = 3 ∧ tkV b t q = c ∧ tkA b t q = q + 1 := by
  unfold tkK tkV tkA sgV sgA
  rw [h, if_neg h1, if_neg h1, if_neg h1, h2, h3]
  simp [h4, h5]
theorem tk_end : tkK b t q = 0 ↔ pk b t q = -1 := by
  unfold tkK
  by_cases e : pk b t q = -1
  · rw [if_pos e]; simp [e]
  · rw [if_neg e]
    constructor
    · intro k
      split at k
      · exact absurd k (by decide)
      · split at k <;> exact absurd k (by decide)
    · intro k; exact absurd k e
theorem tk_is {c : Int32} (h1 : c ≠ -1) (h2 : isD c = false) (h3 : isW c = false) (h4 : c ≠ 60) (h5 : c ≠ 62) (h6 : c ≠ 256) (h7 : c ≠ 257) : (decide (tkK b t q = 3) && decide (tkV b t q = c)) = decide (pk b t q = c) := by
  by_cases e : pk b t q = c
  · obtain ⟨a1, a2, -⟩ := tk_sg e h1 h2 h3 h4 h5
    rw [a1, a2, decide_eq_true e]; simp
  · rw [decide_eq_false e]
    by_cases k : tkK b t q = 3
    · rw [decide_eq_true k, Bool.true_and]
      refine decide_eq_false (fun v => ?_)
      unfold tkK at k
      unfold tkV sgV at v
      by_cases q1 : pk b t q = -1
      · rw [if_pos q1] at k; exact absurd k (by decide)
      rw [if_neg q1] at k v
      cases q2 : isD (pk b t q) with
      | true => rw [q2, if_pos rfl] at k; exact absurd k (by decide)
      | false =>
        rw [q2] at k v
        cases q3 : isW (pk b t q) with
        | true => rw [q3] at k; exact absurd k (by decide)
        | false =>
          rw [q3, if_neg (by decide), if_neg (by decide)] at v
          split at v
          · split at v
            · exact h6 v.symm
            · split at v
              · exact h7 v.symm
              · exact e v
          · exact e v
    · rw [decide_eq_false k, Bool.false_and]
theorem CC.u2 (H : CC b t σ1 L B σ pc ex sg cnt h cc) (v : Int32) : CC b t σ1 L B (uI σ 5 0 2 v) pc v sg cnt h cc := by
  have H0 := H
  obtain ⟨-, -, ⟨c1, c2, c3, c4, c5⟩, ⟨d1, d2, d3, d4⟩, -⟩ := H
  exact H0.m5 rfl (fun k i j q1 q2 => by rw [uI_1, if_neg (by omega)]) (by simp [uI_1]) (by simp [uI_1]) (by simp [uI_1, c4]) (by simp [uI_1, c5]) (by simp [uI_1, d1]) (by simp [uI_1, d2]) (by simp [uI_1, d3]) (hAt_cg d4 (fun j hj => by rw [uI_1, if_neg (by omega)]))
theorem CC.u3 (H : CC b t σ1 L B σ pc ex sg cnt h cc) (v : Int32) : CC b t σ1 L B (uI σ 5 0 3 v) pc ex v cnt h cc := by
  have H0 := H
  obtain ⟨-, -, ⟨c1, c2, c3, c4, c5⟩, ⟨d1, d2, d3, d4⟩, -⟩ := H
  exact H0.m5 rfl (fun k i j q1 q2 => by rw [uI_1, if_neg (by omega)]) (by simp [uI_1]) (by simp [uI_1, c3]) (by simp [uI_1]) (by simp [uI_1, c5]) (by simp [uI_1, d1]) (by simp [uI_1, d2]) (by simp [uI_1, d3]) (hAt_cg d4 (fun j hj => by rw [uI_1, if_neg (by omega)]))
theorem CC.u4 (H : CC b t σ1 L B σ pc ex sg cnt h cc) (n : Nat) : CC b t σ1 L B (uI σ 5 0 4 (nI n)) pc ex sg n h cc := by
  have H0 := H
  obtain ⟨-, -, ⟨c1, c2, c3, c4, c5⟩, ⟨d1, d2, d3, d4⟩, -⟩ := H
  exact H0.m5 rfl (fun k i j q1 q2 => by rw [uI_1, if_neg (by omega)]) (by simp [uI_1]) (by simp [uI_1, c3]) (by simp [uI_1, c4]) (by simp [uI_1]) (by simp [uI_1, d1]) (by simp [uI_1, d2]) (by simp [uI_1, d3]) (hAt_cg d4 (fun j hj => by rw [uI_1, if_neg (by omega)]))
/-- a fault here -/
theorem CC.fail (H : CC b t σ1 L B σ pc ex sg cnt h cc) (k : tkn b t q σ) (c : Int32) : ∃ σ', d_X7_fail σ c = some σ' ∧ FC σ1 L σ' (flt 0 c q) := by
  obtain ⟨σ', g1, g2, g3, g4⟩ := x7_fail k.1 c
  exact ⟨σ', g1, H.1.2.1.tr (g2.mono (fun k i q => Or.inl q)), by rw [g3, H.2.1.1]⟩
theorem FC.u5 {f : Int32} (H : FC σ1 L σ f) (j : Nat) (v : Int32) : FC σ1 L (uI σ 5 0 j v) f := ⟨H.1.uI (Or.inr (Or.inl rfl)) _ _, by rw [uI_1, if_neg (by omega)]; exact H.2⟩
theorem CC.many (H : CC b t σ1 L B σ pc ex sg cnt h cc) (k : tkn b t q σ) (hc : cnt ≤ 60) : ∃ σ', d_X5_isPartTooMany σ = some (σ', if cnt = 60 then 1 else 0) ∧ CC b t σ1 L B σ' pc ex sg (cnt + 1) h cc ∧ tkn b t q σ' ∧ sc7 σ σ' := by
  unfold d_X5_isPartTooMany
  simp only [zlet]
  rw [H.2.2.1.2.2.2.2, nI_1]
  have s : sc7 σ (uI σ 5 0 4 (nI (cnt + 1))) := fun j => by rw [uI_1, if_neg (by omega)]
  refine ⟨uI σ 5 0 4 (nI (cnt + 1)), ?_, H.u4 (cnt + 1), s.tk k, s⟩
  rw [show (uI σ 5 0 4 (nI (cnt + 1))).1 5 0 4 = nI (cnt + 1) by simp [uI_1]]
  by_cases e : cnt = 60
  · rw [if_pos e, if_pos (show (60 : Int32) < nI (cnt + 1) from nI_lt (a := 60) (by omega) (by omega))]
  · rw [if_neg e, if_neg (show ¬ (60 : Int32) < nI (cnt + 1) from nI_nlt (a := 60) (by omega) (by omega))]
theorem x5_word (H : txc b t σ) (k : tkn b t q σ) (hq : q ≤ t) : d_X5_wordNumber σ = some (σ, if vw b t q < 10 then nI (vw b t q) else -1) := by
  have i := fun e he => x7_isWord H k hq e he
  unfold d_X5_wordNumber vw
  have b0 : ∀ (w : Bool) {α : Type} (x y : α), (if b2i w = 0 then x else y) = if w = true then y else x := fun w α x y => by cases w <;> rfl
  simp only [i 7 (by omega), i 8 (by omega), i 9 (by omega), i 10 (by omega), i 11 (by omega), i 12 (by omega), i 13 (by omega), i 14 (by omega), i 15 (by omega), i 16 (by omega), Option.bind_some, b0, vwf, Nat.reduceAdd]
  repeat' split
  all_goals first | rfl | omega
/-- the sign at q, as operator -/
theorem CC.val (H : CC b t σ1 L B σ pc ex sg cnt h cc) (k : tkn b t q σ) (hq : q ≤ t) (hb : B + cc.length < 400) (hc : cnt ≤ 60) :
    (∀ v, vnm b t q = some v → cnt < 60 → ∃ σ', d_X5_takeValue σ = some σ' ∧ CC b t σ1 L B σ' pc 3 sg (cnt + 1) h (cc ++ [v])) ∧
    (vnm b t q = none → ∃ σ', d_X5_takeValue σ = some σ' ∧ FC σ1 L σ' (flt 0 (vfc b t q) q)) ∧
    (vnm b t q ≠ none → cnt = 60 → ∃ σ', d_X5_takeValue σ = some σ' ∧ FC σ1 L σ' (flt 0 3 q)) := by
  have hd := en_spec isD_m1 b t q
  have hd2 := hd.2.1 hq
  obtain ⟨σ2, e2, H2, k2, s2⟩ := H.many k hc
  have L6 := H.2.2.1.2.1
  have L5 : σ2.1 5 0 1 = nI L := H2.2.2.1.1
  have t400 := H.1.1.1
  -- behind the count
  have bad : ∀ x1, cnt = 60 → ∃ σ', j_X5_takeValue_80 σ x1 = some σ' ∧ FC σ1 L σ' (flt 0 3 q) := fun x1 h60 => by
    obtain ⟨σ3, g1, g2⟩ := H2.fail k2 3
    unfold j_X5_takeValue_80 j_X5_takeValue_132
    rw [e2, if_pos h60]
    simp only [Option.bind_some]
    rw [if_neg i10, g1]
    exact ⟨_, rfl, g2.u5 2 3⟩
  have good : ∀ (x1 : Int32) (v : qop), cnt < 60 → ((x1 = -1 ∧ v = (0, tkV b t q)) ∨ (¬ x1 = -1 ∧ v = (1, x1))) → ∃ σ', j_X5_takeValue_80 σ x1 = some σ' ∧ CC b t σ1 L B σ' pc 3 sg (cnt + 1) h (cc ++ [v]) := fun x1 v h60 hv => by
    unfold j_X5_takeValue_80 j_X5_takeValue_132
    rw [e2, if_neg (show ¬ cnt = 60 by omega)]
    simp only [Option.bind_some, if_true]
    rcases hv with ⟨rfl, rfl⟩ | ⟨hx, rfl⟩
    · rw [if_pos rfl, L5, ix_nI L6 (by omega)]
      obtain ⟨σ3, g1, g2, -⟩ := H2.emit hb (x := 70) (a := σ2.1 7 0 4) 0 (tkV b t q) rfl (fun _ => k2.2.2.1)
      rw [g1]
      exact ⟨_, rfl, g2.u2 3⟩
    · rw [if_neg hx, L5, ix_nI L6 (by omega)]
      obtain ⟨σ3, g1, g2, -⟩ := H2.emit hb (x := 71) (a := x1) 1 x1 rfl (fun _ => rfl)
      rw [g1]
      exact ⟨_, rfl, g2.u2 3⟩
  have bd : ∀ c, ∃ σ', (d_X7_fail σ c).bind (fun σ1 => j_X5_takeValue_132 σ1) = some σ' ∧ FC σ1 L σ' (flt 0 c q) := fun c => by
    obtain ⟨σ3, g1, g2⟩ := H.fail k c
    unfold j_X5_takeValue_132
    rw [g1]
    exact ⟨_, rfl, g2.u5 2 3⟩
  unfold d_X5_takeValue
  rw [k.2.1]
  unfold vnm vfc
  by_cases hD : isD (pk b t q) = true
  · have hne : pk b t q ≠ -1 := fun e => by rw [e, isD_m1] at hD; cases hD
    have hK : tkK b t q = 1 := tk_num.mpr hD
    have hV : tkV b t q = nuv b t q := by unfold tkV; rw [if_neg hne, if_pos hD]
    rw [hK, if_neg (show ¬ (1 : Int32) = 2 by decide), if_pos hD, if_pos hD]
    unfold j_X5_takeValue_19 j_X5_takeValue_47
    rw [k.2.1, hK, if_pos rfl, if_pos rfl, k.2.2.1, hV]
    by_cases h5 : en isD b t q - q ≤ 5
    · have hr := vl_rng (b := b) (p := q) (en isD b t q - q) h5 (fun j hj => by
        have := hd.2.2.1 (q + j) (by omega) (by omega)
        rw [pkb_in (by omega)] at this
        exact this)
      have hn : nuv b t q = vl b q (en isD b t q - q) := by unfold nuv; rw [if_pos h5]
      rw [if_pos h5, hn, if_neg (fun e => by rw [e, i32_m1] at hr; omega)]
      refine ⟨fun v hv h60 => ?_, fun e => by (cases e), fun _ h60 => bad (-1) h60⟩
      cases hv
      exact good (-1) _ h60 (Or.inl ⟨rfl, by rw [hV, hn]⟩)
    · have hn : nuv b t q = -1 := by unfold nuv; rw [if_neg h5]
      rw [if_neg h5, hn, if_pos rfl]
      exact ⟨fun v hv => by (cases hv), fun _ => bd 1, fun e => absurd rfl e⟩
  · have hK : ¬ tkK b t q = 1 := fun e => hD (tk_num.mp e)
    rw [if_neg hD, if_neg hD]
    have tail : ∀ y : Option zH, (∃ xs0, y = j_X5_takeValue_19 σ xs0 ∧ ((vw b t q < 10 ∧ xs0 = nI (vw b t q)) ∨ (¬ vw b t q < 10 ∧ xs0 = -1))) →
        ((∀ v, (if vw b t q < 10 then some ((1, nI (vw b t q)) : qop) else none) = some v → cnt < 60 → ∃ σ', y = some σ' ∧ CC b t σ1 L B σ' pc 3 sg (cnt + 1) h (cc ++ [v])) ∧
        ((if vw b t q < 10 then some ((1, nI (vw b t q)) : qop) else none) = none → ∃ σ', y = some σ' ∧ FC σ1 L σ' (flt 0 0 q)) ∧
        ((if vw b t q < 10 then some ((1, nI (vw b t q)) : qop) else none) ≠ none → cnt = 60 → ∃ σ', y = some σ' ∧ FC σ1 L σ' (flt 0 3 q))) := fun y hy => by
      obtain ⟨xs0, rfl, hx⟩ := hy
      unfold j_X5_takeValue_19 j_X5_takeValue_47
      rw [k.2.1, if_neg hK, if_neg hK]
      rcases hx with ⟨h10, rfl⟩ | ⟨h10, rfl⟩
      · have hm : ¬ nI (vw b t q) = (-1 : Int32) := nI_nm1 (by omega)
        rw [if_pos h10, if_neg hm]
        refine ⟨fun v hv h60 => ?_, fun e => by (cases e), fun _ h60 => bad _ h60⟩
        cases hv
        exact good _ _ h60 (Or.inr ⟨hm, rfl⟩)
      · rw [if_neg h10, if_pos rfl]
        exact ⟨fun v hv => by (cases hv), fun _ => bd 0, fun e => absurd rfl e⟩
    by_cases h2 : tkK b t q = 2
    · rw [if_pos h2, x5_word H.1.1 k hq]
      simp only [Option.bind_some]
      refine tail _ ⟨_, rfl, ?_⟩
      by_cases h10 : vw b t q < 10
      · left; rw [if_pos h10]; exact ⟨h10, rfl⟩
      · right; rw [if_neg h10]; exact ⟨h10, rfl⟩
    · rw [if_neg h2]
      refine tail _ ⟨_, rfl, Or.inr ⟨fun h10 => ?_, rfl⟩⟩
      have := (vwf_spec b t q 10 0).2.2 (by unfold vw at h10; omega)
      exact h2 (wrd_K (by unfold vw at h10; omega) this)
end
