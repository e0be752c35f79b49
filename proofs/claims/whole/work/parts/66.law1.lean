/-! CALLS: law, the class's reader -/
def hAt (ren : Nat → Int32) (f : Nat → Int32) : List Nat → Prop
  | [] => True
  | x :: h => f h.length = ren x ∧ hAt ren f h
def ctn (k : Nat) : List Nat → Nat
  | [] => 0
  | x :: h => (if x = k then 1 else 0) + ctn k h
def ops (A : List Nat) : List qop := A.map (fun x => (x, (0 : Int32)))
theorem hAt_cg {ren f f' : Nat → Int32} : ∀ {h : List Nat}, hAt ren f h → (∀ j, j < h.length → f' j = f j) → hAt ren f' h
  | [], _, _ => trivial
  | x :: h, q, e => ⟨by rw [e _ (by simp)]; exact q.1, hAt_cg q.2 (fun j hj => e j (by simp; omega))⟩
theorem cdAt_cg {f g f' g' ren : Nat → Int32} : ∀ {c : List qop} {i : Nat}, cdAt f g ren i c → (∀ j, i ≤ j → j < i + c.length → f' j = f j ∧ g' j = g j) → cdAt f' g' ren i c
  | [], _, _, _ => trivial
  | x :: c, i, q, e => ⟨by rw [(e i (by omega) (by simp)).1]; exact q.1, fun h => by rw [(e i (by omega) (by simp)).2]; exact q.2.1 h, cdAt_cg q.2.2 (fun j h1 h2 => e j (by omega) (by simp; omega))⟩
theorem cdAt_app {f g ren : Nat → Int32} : ∀ {c d : List qop} {i : Nat}, cdAt f g ren i c → cdAt f g ren (i + c.length) d → cdAt f g ren i (c ++ d)
  | [], d, i, _, h => by simpa using h
  | x :: c, d, i, q, h => ⟨q.1, q.2.1, cdAt_app q.2.2 (by rw [show i + 1 + c.length = i + (x :: c).length by simp; omega]; exact h)⟩
theorem ctn_app (k : Nat) : ∀ A h : List Nat, ctn k (A ++ h) = ctn k A + ctn k h
  | [], h => by simp [ctn]
  | x :: A, h => by rw [List.cons_append, ctn, ctn, ctn_app k A h]; omega
theorem ctn_le (k : Nat) : ∀ A : List Nat, ctn k A ≤ A.length
  | [] => Nat.le_refl _
  | x :: A => by
    have := ctn_le k A
    rw [ctn, List.length_cons]
    split <;> omega
theorem qren_30 {x : Nat} (h : qren x = 30) : x = 9 := by
  unfold qren at h
  split at h <;> first | rfl | exact absurd h (by decide)
/-- what reading a clause of law L changes in the class -/
def Fq (L k i : Nat) : Prop := k = 7 ∨ k = 5 ∨ k = 29 ∨ ((k = 4 ∨ k = 26 ∨ k = 27) ∧ i = L)
/-- the class within a clause: its place, what it expects, whether a sign was met, parts, operators held (the top first), code so far -/
def CC (b : Nat → Int32) (t : Nat) (σ1 : zH) (L B : Nat) (σ : zH) (pc : Nat) (ex sg : Int32) (cnt : Nat) (h : List Nat) (cc : List qop) : Prop :=
  (txc b t σ ∧ zsm (Fq L) σ1 σ ∧ σ.1 4 L 0 = σ1.1 4 L 0 ∧ (∀ j, j < B → σ.1 26 L j = σ1.1 26 L j ∧ σ.1 27 L j = σ1.1 27 L j)) ∧
  (σ.1 7 0 5 = 0 ∧ σ.1 7 0 1 = nI pc ∧ pc ≤ t) ∧ (σ.1 5 0 1 = nI L ∧ L < 6 ∧ σ.1 5 0 2 = ex ∧ σ.1 5 0 3 = sg ∧ σ.1 5 0 4 = nI cnt) ∧
  (σ.1 5 0 6 = nI h.length ∧ σ.1 5 0 7 = nI (ctn 12 h) ∧ σ.1 5 0 8 = nI (ctn 9 h) ∧ hAt qren (σ.1 29 0) h) ∧ (σ.1 4 L 3 = nI (B + cc.length) ∧ cdAt (σ.1 26 L) (σ.1 27 L) qren B cc)
section
variable {b : Nat → Int32} {t : Nat} {σ1 : zH} {L B : Nat} {σ : zH} {pc : Nat} {ex sg : Int32} {cnt : Nat} {h : List Nat} {cc : List qop}
/-- the reader's own cells alone have changed -/
theorem CC.m5 (H : CC b t σ1 L B σ pc ex sg cnt h cc) {σ' : zH} {ex' sg' : Int32} {cnt' : Nat} {h' : List Nat} (e2 : σ'.2 = σ.2) (e : ∀ k i j, k ≠ 5 → k ≠ 29 → σ'.1 k i j = σ.1 k i j) (h1 : σ'.1 5 0 1 = σ.1 5 0 1) (h2 : σ'.1 5 0 2 = ex') (h3 : σ'.1 5 0 3 = sg') (h4 : σ'.1 5 0 4 = nI cnt') (h6 : σ'.1 5 0 6 = nI h'.length) (h7 : σ'.1 5 0 7 = nI (ctn 12 h')) (h8 : σ'.1 5 0 8 = nI (ctn 9 h')) (h9 : hAt qren (σ'.1 29 0) h') : CC b t σ1 L B σ' pc ex' sg' cnt' h' cc := by
  obtain ⟨⟨a1, a2, a3, a4⟩, ⟨b1, b2, b3⟩, ⟨c1, c2, c3, c4, c5⟩, ⟨d1, d2, d3, d4⟩, ⟨e1, e3⟩⟩ := H
  have ef : ∀ k i, k ≠ 5 → k ≠ 29 → σ'.1 k i = σ.1 k i := fun k i q1 q2 => funext fun j => e k i j q1 q2
  refine ⟨⟨a1.mv (e 9 0 1 (by omega) (by omega)) (ef 37 0 (by omega) (by omega)), fun k i hk => ?_, by rw [e _ _ _ (by omega) (by omega)]; exact a3, fun j hj => by rw [e _ _ _ (by omega) (by omega), e _ _ _ (by omega) (by omega)]; exact a4 j hj⟩, ⟨by rw [e _ _ _ (by omega) (by omega)]; exact b1, by rw [e _ _ _ (by omega) (by omega)]; exact b2, b3⟩, ⟨by rw [h1]; exact c1, c2, h2, h3, h4⟩, ⟨h6, h7, h8, h9⟩, ⟨by rw [e _ _ _ (by omega) (by omega)]; exact e1, by rw [ef 26 L (by omega) (by omega), ef 27 L (by omega) (by omega)]; exact e3⟩⟩
  have hk5 : k ≠ 5 := fun q => hk (Or.inr (Or.inl q))
  have hk29 : k ≠ 29 := fun q => hk (Or.inr (Or.inr (Or.inl q)))
  exact ⟨(ef k i hk5 hk29).trans (a2 k i hk).1, by rw [e2]; exact (a2 k i hk).2⟩
/-- the token at q has been read -/
theorem tkA_le {q : Nat} (hq : q ≤ t) : q ≤ tkA b t q ∧ tkA b t q ≤ t ∧ (pk b t q ≠ -1 → q < tkA b t q) := by
  have hd := en_spec isD_m1 b t q
  have hw := en_spec isW_m1 b t q
  unfold tkA
  by_cases h1 : pk b t q = -1
  · rw [if_pos h1]
    exact ⟨Nat.le_refl _, hq, fun hne => absurd h1 hne⟩
  · have hlt : q < t := by
      by_cases q0 : q < t
      · exact q0
      · exact absurd (pkb_end (by omega)) h1
    rw [if_neg h1]
    cases e : isD (pk b t q) with
    | true =>
      obtain ⟨-, hen⟩ := en_step isD_m1 e
      have := (en_spec isD_m1 b t (q + 1)).1
      rw [if_pos rfl]
      exact ⟨hd.1, hd.2.1 hq, fun _ => by omega⟩
    | false =>
      rw [if_neg (by decide)]
      cases e2 : isW (pk b t q) with
      | true =>
        obtain ⟨-, hen⟩ := en_step isW_m1 e2
        have := (en_spec isW_m1 b t (q + 1)).1
        rw [if_pos rfl]
        exact ⟨hw.1, hw.2.1 hq, fun _ => by omega⟩
      | false =>
        rw [if_neg (by decide)]
        unfold sgA
        by_cases h61 : pk b t (q + 1) = 61
        · have h2 : q + 1 < t := by
            by_cases q0 : q + 1 < t
            · exact q0
            · rw [pkb_end (by omega)] at h61; exact absurd h61 (by decide)
          rw [if_pos h61]
          split
          · omega
          · split <;> omega
        · rw [if_neg h61]; omega
theorem CC.next (H : CC b t σ1 L B σ pc ex sg cnt h cc) : ∃ τ, d_X7_next σ = some τ ∧ tkn b t (en isB b t pc) τ ∧ en isB b t pc ≤ t ∧ CC b t σ1 L B τ (tkA b t (en isB b t pc)) ex sg cnt h cc := by
  obtain ⟨⟨a1, a2, a3, a4⟩, ⟨b1, b2, b3⟩, ⟨c1, c2, c3, c4, c5⟩, ⟨d1, d2, d3, d4⟩, ⟨e1, e3⟩⟩ := H
  obtain ⟨τ, n1, z, n2, n3⟩ := x7_next a1 b2 b3
  have hq := (en_spec isB_m1 b t pc).2.1 b3
  have e : ∀ k i, k ≠ 7 → τ.1 k i = σ.1 k i := fun k i hk => (z k i hk).1
  refine ⟨τ, n1, n3, hq, ⟨z.tx a1, a2.tr (z.mono (fun k i q => Or.inl q)), by rw [e _ _ (by omega)]; exact a3, fun j hj => by rw [e _ _ (by omega), e _ _ (by omega)]; exact a4 j hj⟩, ⟨by rw [n2]; exact b1, n3.2.2.2, (tkA_le hq).2.1⟩, ⟨by rw [e _ _ (by omega)]; exact c1, c2, by rw [e _ _ (by omega)]; exact c3, by rw [e _ _ (by omega)]; exact c4, by rw [e _ _ (by omega)]; exact c5⟩, ⟨by rw [e _ _ (by omega)]; exact d1, by rw [e _ _ (by omega)]; exact d2, by rw [e _ _ (by omega)]; exact d3, by rw [e _ _ (by omega)]; exact d4⟩, ⟨by rw [e _ _ (by omega)]; exact e1, by rw [e _ _ (by omega), e _ _ (by omega)]; exact e3⟩⟩
/-- the scanner as it was -/
def sc7 (σ σ' : zH) : Prop := ∀ j, σ'.1 7 0 j = σ.1 7 0 j
theorem sc7.tk {q : Nat} {σ σ' : zH} (s : sc7 σ σ') (k : tkn b t q σ) : tkn b t q σ' := ⟨by rw [s]; exact k.1, by rw [s]; exact k.2.1, by rw [s]; exact k.2.2.1, by rw [s]; exact k.2.2.2⟩
theorem sc7.tr {σ σ' σ'' : zH} (s : sc7 σ σ') (s2 : sc7 σ' σ'') : sc7 σ σ'' := fun j => (s2 j).trans (s j)
theorem x4_emit {σ : zH} {L n : Nat} (hn : n < 400) (e : σ.1 4 L 3 = nI n) (x a : Int32) : d_X4_emit σ L x a = some (uI (uI (uI σ 26 L n x) 27 L n a) 4 L 3 (nI (n + 1))) := by
  unfold d_X4_emit
  rw [e, if_pos (show nI n < (400 : Int32) from nI_lt (b := 400) hn (by omega)), ix_nI hn (by omega)]
  simp only [zlet, Nat.add_zero]
  rw [show (uI σ 26 L n x).1 4 L 3 = nI n by rw [uI_1, if_neg (by omega)]; exact e, ix_nI hn (by omega), show (uI (uI σ 26 L n x) 27 L n a).1 4 L 3 = nI n by rw [uI_1, if_neg (by omega), uI_1, if_neg (by omega)]; exact e, nI_1]
theorem CC.emit (H : CC b t σ1 L B σ pc ex sg cnt h cc) (hb : B + cc.length < 400) {x a : Int32} (op : Nat) (a' : Int32) (hx : x = qren op) (ha : op ≤ 1 → a = a') : ∃ σ', d_X4_emit σ L x a = some σ' ∧ CC b t σ1 L B σ' pc ex sg cnt h (cc ++ [(op, a')]) ∧ (∀ k i j, k ≠ 4 → k ≠ 26 → k ≠ 27 → σ'.1 k i j = σ.1 k i j) := by
  obtain ⟨⟨a1, a2, a3, a4⟩, ⟨b1, b2, b3⟩, ⟨c1, c2, c3, c4, c5⟩, ⟨d1, d2, d3, d4⟩, ⟨e1, e3⟩⟩ := H
  refine ⟨_, x4_emit hb e1 x a, ?_, fun k i j q1 q2 q3 => by rw [uI_1, if_neg (by omega), uI_1, if_neg (by omega), uI_1, if_neg (by omega)]⟩
  generalize hσ : uI (uI (uI σ 26 L (B + cc.length) x) 27 L (B + cc.length) a) 4 L 3 (nI (B + cc.length + 1)) = σ'
  have e : ∀ k i j, k ≠ 4 → k ≠ 26 → k ≠ 27 → σ'.1 k i j = σ.1 k i j := fun k i j q1 q2 q3 => by rw [← hσ, uI_1, if_neg (by omega), uI_1, if_neg (by omega), uI_1, if_neg (by omega)]
  have eo : ∀ k j, j ≠ B + cc.length → k ≠ 4 → σ'.1 k L j = σ.1 k L j := fun k j q q4 => by rw [← hσ, uI_1, if_neg (by omega), uI_1, if_neg (by omega), uI_1, if_neg (by omega)]
  have f : ∀ k i, k ≠ 4 → k ≠ 26 → k ≠ 27 → σ'.1 k i = σ.1 k i := fun k i q1 q2 q3 => funext fun j => e k i j q1 q2 q3
  refine ⟨⟨a1.mv (e 9 0 1 (by omega) (by omega) (by omega)) (f 37 0 (by omega) (by omega) (by omega)), ?_, ?_, fun j hj => by rw [eo 26 _ (by omega) (by omega), eo 27 _ (by omega) (by omega)]; exact a4 j hj⟩, ⟨by rw [e _ _ _ (by omega) (by omega) (by omega)]; exact b1, by rw [e _ _ _ (by omega) (by omega) (by omega)]; exact b2, b3⟩, ⟨by rw [e _ _ _ (by omega) (by omega) (by omega)]; exact c1, c2, by rw [e _ _ _ (by omega) (by omega) (by omega)]; exact c3, by rw [e _ _ _ (by omega) (by omega) (by omega)]; exact c4, by rw [e _ _ _ (by omega) (by omega) (by omega)]; exact c5⟩, ⟨by rw [e _ _ _ (by omega) (by omega) (by omega)]; exact d1, by rw [e _ _ _ (by omega) (by omega) (by omega)]; exact d2, by rw [e _ _ _ (by omega) (by omega) (by omega)]; exact d3, by rw [f _ _ (by omega) (by omega) (by omega)]; exact d4⟩, ⟨?_, cdAt_app (cdAt_cg e3 (fun j q1 q2 => ⟨eo 26 _ (by omega) (by omega), eo 27 _ (by omega) (by omega)⟩)) ⟨?_, fun q => ?_, trivial⟩⟩⟩
  · rw [← hσ]
    exact ((a2.uI (Or.inr (Or.inr (Or.inr ⟨by omega, rfl⟩))) _ _).uI (Or.inr (Or.inr (Or.inr ⟨by omega, rfl⟩))) _ _).uI (Or.inr (Or.inr (Or.inr ⟨by omega, rfl⟩))) _ _
  · rw [← hσ, uI_1, if_neg (by omega), uI_1, if_neg (by omega), uI_1, if_neg (by omega)]; exact a3
  · rw [← hσ, uI_1, if_pos ⟨rfl, rfl, rfl⟩, List.length_append]; rfl
  · rw [← hσ, uI_1, if_neg (by omega), uI_1, if_neg (by omega), uI_1, if_pos ⟨rfl, rfl, rfl⟩]; exact hx
  · rw [← hσ, uI_1, if_neg (by omega), uI_1, if_pos ⟨rfl, rfl, rfl⟩]; exact ha q
/-- one operator is let go -/
theorem CC.pop {x : Nat} (H : CC b t σ1 L B σ pc ex sg cnt (x :: h) cc) (hb : B + cc.length < 400) (hh : h.length < 400) (hx : x ≠ 12) (h1 : 1 < x) (rr : Int32) (hr : ¬ qren x / 10 < rr) (f : Nat) : ∃ σ', k_X5_release_12 (f + 1) σ rr (nI (x :: h).length - 1) = k_X5_release_12 f σ' rr (nI h.length - 1) ∧ CC b t σ1 L B σ' pc ex sg cnt h (cc ++ [(x, 0)]) ∧ sc7 σ σ' := by
  have H0 := H
  obtain ⟨⟨a1, a2, a3, a4⟩, ⟨b1, b2, b3⟩, ⟨c1, c2, c3, c4, c5⟩, ⟨d1, d2, d3, d4⟩, ⟨e1, e3⟩⟩ := H
  rw [List.length_cons, nI_pred, k_X5_release_12, if_neg (nI_nneg (by omega)), ix_nI hh (by omega), show σ.1 29 0 h.length = qren x from d4.1, if_neg hr, ix_nI hh (by omega)]
  have fin : ∀ υ : zH, υ.2 = σ.2 → (∀ k i j, ¬ (k = 5 ∧ i = 0 ∧ j = 8) → υ.1 k i j = σ.1 k i j) → υ.1 5 0 8 = nI (ctn 9 h) → ∃ σ', j_X5_release_50 (k_X5_release_12 f) υ rr (nI h.length) = k_X5_release_12 f σ' rr (nI h.length - 1) ∧ CC b t σ1 L B σ' pc ex sg cnt h (cc ++ [(x, 0)]) ∧ sc7 σ σ' := fun υ u2 u u8 => by
    obtain ⟨σe, ee, He, -⟩ := H0.emit hb (x := qren x) (a := 0) x 0 rfl (fun _ => rfl)
    rw [x4_emit hb e1] at ee
    have ee' := Option.some.inj ee
    unfold j_X5_release_50
    rw [u 5 0 1 (by omega), c1, ix_nI c2 (by omega), ix_nI hh (by omega), u 29 0 h.length (by omega), show σ.1 29 0 h.length = qren x from d4.1, x4_emit hb (by rw [u _ _ _ (by omega)]; exact e1)]
    simp only [Option.bind_some, zlet]
    rw [← Int32.sub_eq_add_neg]
    refine ⟨_, rfl, ?_, fun j => ?_⟩
    · refine He.m5 ?_ (fun k i j q1 q2 => ?_) ?_ ?_ ?_ ?_ ?_ ?_ ?_ ?_
      · rw [← ee']; exact u2
      · rw [← ee', uI_1, if_neg (by omega)]
        simp only [uI_1]
        rw [u k i j (by omega)]
      · rw [← ee', uI_1, if_neg (by omega)]
        simp [uI_1, u 5 0 1 (by omega)]
      · simp [uI_1, u 5 0 2 (by omega), c3]
      · simp [uI_1, u 5 0 3 (by omega), c4]
      · simp [uI_1, u 5 0 4 (by omega), c5]
      · simp [uI_1]
      · simp [uI_1, u 5 0 7 (by omega), d2, ctn, hx]
      · simp [uI_1, u8]
      · refine hAt_cg d4.2 (fun j hj => ?_)
        simp [uI_1, u 29 0 j (by omega)]
    · simp [uI_1, u 7 0 j (by omega)]
  by_cases h9 : x = 9
  · subst h9
    rw [show σ.1 29 0 h.length = qren 9 from d4.1, if_pos (show qren 9 = 30 from rfl)]
    simp only [zlet]
    rw [d3, show ctn 9 (9 :: h) = ctn 9 h + 1 by rw [ctn, if_pos rfl]; omega, nI_pred]
    exact fin _ rfl (fun k i j hk => by rw [uI_1, if_neg hk]) (by rw [uI_1, if_pos ⟨rfl, rfl, rfl⟩])
  · have h30 : ¬ qren x = 30 := fun q => h9 (qren_30 q)
    rw [show σ.1 29 0 h.length = qren x from d4.1, if_neg h30]
    exact fin σ rfl (fun _ _ _ _ => rfl) (by rw [d3, ctn, if_neg h9, Nat.zero_add])
/-- all that bind at least as tightly are let go -/
theorem CC.pops {h0 : List Nat} (rr : Int32) (h0r : ∀ x r, h0 = x :: r → qren x / 10 < rr) (hh0 : h0.length < 2 ^ 30) : ∀ (A : List Nat) (σ : zH) (cc : List qop) (f : Nat), CC b t σ1 L B σ pc ex sg cnt (A ++ h0) cc → B + cc.length + A.length ≤ 400 → (A ++ h0).length ≤ 400 → (∀ x, x ∈ A → x ≠ 12 ∧ 1 < x ∧ ¬ qren x / 10 < rr) → A.length < f →
    ∃ σ', k_X5_release_12 f σ rr (nI (A ++ h0).length - 1) = some σ' ∧ CC b t σ1 L B σ' pc ex sg cnt h0 (cc ++ ops A) ∧ sc7 σ σ'
  | [], σ, cc, f, H, hb, hh, hA, hf => by
    obtain ⟨f, rfl⟩ : ∃ g, f = g + 1 := ⟨f - 1, by simp at hf; omega⟩
    refine ⟨σ, ?_, by simpa [ops] using H, fun _ => rfl⟩
    rw [List.nil_append] at H hh ⊢
    obtain ⟨-, -, -, ⟨d1, d2, d3, d4⟩, -⟩ := H
    match h0, h0r, hh0, d4, hh with
    | [], _, _, _, _ => rw [k_X5_release_12, if_pos (by decide)]
    | x :: r, q, _, d4, hh =>
      rw [List.length_cons] at hh
      rw [List.length_cons, nI_pred, k_X5_release_12, if_neg (nI_nneg (by omega)), ix_nI (by omega) (by omega), show σ.1 29 0 r.length = qren x from d4.1, if_pos (q x r rfl)]
  | a :: A, σ, cc, f, H, hb, hh, hA, hf => by
    obtain ⟨f, rfl⟩ : ∃ g, f = g + 1 := ⟨f - 1, by simp at hf; omega⟩
    simp only [List.cons_append, List.length_cons] at hb hh hf H ⊢
    obtain ⟨q1, q2, q3⟩ := hA a (by simp)
    obtain ⟨σ2, e2, H2, s2⟩ := CC.pop H (by omega) (by omega) q1 q2 rr q3 f
    obtain ⟨σ3, e3, H3, s3⟩ := CC.pops rr h0r hh0 A σ2 (cc ++ [(a, 0)]) f H2 (by simp; omega) (by omega) (fun x hx => hA x (by simp [hx])) (by omega)
    refine ⟨σ3, ?_, ?_, s2.tr s3⟩
    · rw [List.length_cons] at e2; rw [e2]; exact e3
    · rw [List.append_assoc] at H3; exact H3
theorem CC.release {h0 A : List Nat} {op rr : Int32} (hrr : op / 10 = rr) (h0r : ∀ x r, h0 = x :: r → qren x / 10 < rr) (H : CC b t σ1 L B σ pc ex sg cnt (A ++ h0) cc) (hb : B + cc.length + A.length ≤ 400) (hh : (A ++ h0).length ≤ 400) (hA : ∀ x, x ∈ A → x ≠ 12 ∧ 1 < x ∧ ¬ qren x / 10 < rr) : ∃ σ', d_X5_release σ op = some σ' ∧ CC b t σ1 L B σ' pc ex sg cnt h0 (cc ++ ops A) ∧ sc7 σ σ' := by
  unfold d_X5_release
  rw [hrr, H.2.2.2.1.1]
  have := List.length_append (as := A) (bs := h0)
  exact CC.pops rr h0r (by omega) A σ cc zN H hb hh hA (by rw [zN_eq]; omega)
/-- an operator is held -/
theorem x5_hold {σ : zH} {n : Nat} (hn : n < 400) (e : σ.1 5 0 6 = nI n) (x : Int32) : d_X5_hold σ x = some (uI (uI σ 29 0 n x) 5 0 6 (nI (n + 1))) := by
  unfold d_X5_hold
  rw [e, if_pos (show nI n < (400 : Int32) from nI_lt (b := 400) hn (by omega)), ix_nI hn (by omega)]
  simp only [zlet]
  rw [show (uI σ 29 0 n x).1 5 0 6 = nI n by rw [uI_1, if_neg (by omega)]; exact e, nI_1]
theorem CC.hold (H : CC b t σ1 L B σ pc ex sg cnt h cc) (hh : h.length < 400) {x : Nat} (h9 : x ≠ 9) (h12 : x ≠ 12) {v : Int32} (hv : v = qren x) : ∃ σ', d_X5_hold σ v = some σ' ∧ CC b t σ1 L B σ' pc ex sg cnt (x :: h) cc ∧ sc7 σ σ' := by
  have H0 := H
  obtain ⟨-, -, ⟨c1, c2, c3, c4, c5⟩, ⟨d1, d2, d3, d4⟩, -⟩ := H
  refine ⟨_, x5_hold hh d1 v, ?_, fun j => by simp [uI_1]⟩
  refine H0.m5 rfl (fun k i j q1 q2 => by rw [uI_1, if_neg (by omega), uI_1, if_neg (by omega)]) (by simp [uI_1]) (by simp [uI_1, c3]) (by simp [uI_1, c4]) (by simp [uI_1, c5]) (by simp [uI_1]) (by simp [uI_1, d2, ctn, h12]) (by simp [uI_1, d3, ctn, h9]) ⟨by simp [uI_1, hv], hAt_cg d4 (fun j hj => ?_)⟩
  rw [uI_1, if_neg (by omega), uI_1, if_neg (by omega)]
end
