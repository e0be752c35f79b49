/-! CALLS: arguments, what stays -/
theorem in_0 {σ : zH} {x : Int32} {A B : Int64} (a b : Int32) (hA : A = a.toInt64) (hB : B = b.toInt64) (h : x < a ∨ b < x) : d_X11_in σ x.toInt64 A B = some (σ, 0) := by
  rw [hA, hB, in_32]
  rcases h with h | h
  · rw [decide_eq_true h]; rfl
  · rw [decide_eq_true h, Bool.not_true, Bool.and_false]; rfl
theorem in_1 {σ : zH} {x : Int32} {A B : Int64} (a b : Int32) (hA : A = a.toInt64) (hB : B = b.toInt64) (h1 : ¬ x < a) (h2 : ¬ b < x) : d_X11_in σ x.toInt64 A B = some (σ, 1) := by
  rw [hA, hB, in_32, decide_eq_false h1, decide_eq_false h2]; rfl
/-- a number in its bounds, or not -/
theorem num_case (x : Int32) (n : Nat) (hn : n < 2 ^ 31) : (x < 0 ∨ nI n ≤ x) ∨ ∃ j, j < n ∧ x = nI j := by
  rcases pk_ix x hn with h | h | h
  · exact Or.inl (Or.inl h)
  · exact Or.inl (Or.inr h)
  · exact Or.inr h
theorem nI_nneg {n : Nat} (h : n < 2 ^ 31) : ¬ nI n < (0 : Int32) := nI_pos h
theorem le_not_lt {x y : Int32} (h : x ≤ y) : ¬ y < x := by
  rw [fa_le] at h
  rw [fa_lt]
  omega
theorem not_lt_le {x y : Int32} (h : ¬ y < x) : x ≤ y := fa_of_nlt h
theorem le_pred {x : Int32} {n : Nat} (hn : n < 2 ^ 31) (h : nI n ≤ x) : nI n - 1 < x := by
  rw [fa_le, nI_toInt hn] at h
  have e : (nI n - 1).toInt = (n : Int) - 1 := by rw [fb_subI (by rw [nI_toInt hn, i32_1]; omega) (by rw [nI_toInt hn, i32_1]; omega), nI_toInt hn, i32_1]
  rw [fa_lt, e]
  omega
theorem lt_pred {j n : Nat} (hn : n < 2 ^ 31) (h : j < n) : ¬ nI n - 1 < nI j := by
  have e : (nI n - 1).toInt = (n : Int) - 1 := by rw [fb_subI (by rw [nI_toInt hn, i32_1]; omega) (by rw [nI_toInt hn, i32_1]; omega), nI_toInt hn, i32_1]
  rw [fa_lt, e, nI_toInt (by omega)]
  omega
theorem x10_isCompany {σ : zH} {n c : Nat} (h0 : σ.1 0 1 0 = nI n) (hn : n ≤ 12) (hc : c < n) : d_X10_isCompany σ (nI c) = some (σ, 1) := by
  unfold d_X10_isCompany
  rw [if_neg (nI_nneg (by omega)), show σ.1 0 (0 + 1) 0 = nI n from h0, if_pos (nI_lt hc (by omega))]
theorem x10_noCompany {σ : zH} {n : Nat} {x : Int32} (h0 : σ.1 0 1 0 = nI n) (h : x < 0 ∨ nI n ≤ x) : d_X10_isCompany σ x = some (σ, 0) := by
  unfold d_X10_isCompany
  rw [show σ.1 0 (0 + 1) 0 = nI n from h0]
  by_cases h1 : x < 0
  · rw [if_pos h1]
  · rw [if_neg h1, if_neg (le_not_lt (h.resolve_left h1))]
theorem x11_isCompany {σ : zH} {n c : Nat} (h0 : σ.1 42 0 0 = nI n) (hn : n ≤ 12) (hc : c < n) : d_X11_isCompany σ (nI c) = some (σ, 1) := by
  unfold d_X11_isCompany
  rw [in_1 (A := 0) 0 (σ.1 42 0 0 - 1) rfl rfl (nI_nneg (by omega)) (by rw [h0]; exact lt_pred (by omega) hc)]
  simp only [Option.bind_some]
  exact tv_01 (Or.inr rfl)
theorem x11_noCompany {σ : zH} {n : Nat} {x : Int32} (h0 : σ.1 42 0 0 = nI n) (hn : n ≤ 12) (h : x < 0 ∨ nI n ≤ x) : d_X11_isCompany σ x = some (σ, 0) := by
  unfold d_X11_isCompany
  rw [in_0 (A := 0) 0 (σ.1 42 0 0 - 1) rfl rfl (h.imp id (fun q => by rw [h0]; exact le_pred (by omega) q))]
  simp only [Option.bind_some]
  exact tv_01 (Or.inl rfl)
theorem x10_isLaw {σ : zH} {n c : Nat} (h0 : σ.1 10 0 5 = nI n) (hn : n ≤ 6) (hc : c < n) : d_X10_isLaw σ (nI c) = some (σ, 1) := by
  unfold d_X10_isLaw
  rw [if_neg (nI_nneg (by omega)), h0, if_pos (nI_lt hc (by omega))]
theorem x10_noLaw {σ : zH} {n : Nat} {x : Int32} (h0 : σ.1 10 0 5 = nI n) (h : x < 0 ∨ nI n ≤ x) : d_X10_isLaw σ x = some (σ, 0) := by
  unfold d_X10_isLaw
  rw [h0]
  by_cases h1 : x < 0
  · rw [if_pos h1]
  · rw [if_neg h1, if_neg (le_not_lt (h.resolve_left h1))]
theorem x11_isLaw {σ : zH} {n c : Nat} (h0 : σ.1 11 0 34 = nI n) (hn : n ≤ 6) (hc : c < n) : d_X11_isLaw σ (nI c) = some (σ, 1) := by
  unfold d_X11_isLaw
  rw [in_1 (A := 0) 0 (σ.1 11 0 34 - 1) rfl rfl (nI_nneg (by omega)) (by rw [h0]; exact lt_pred (by omega) hc)]
  simp only [Option.bind_some]
  exact tv_01 (Or.inr rfl)
theorem x11_noLaw {σ : zH} {n : Nat} {x : Int32} (h0 : σ.1 11 0 34 = nI n) (hn : n ≤ 6) (h : x < 0 ∨ nI n ≤ x) : d_X11_isLaw σ x = some (σ, 0) := by
  unfold d_X11_isLaw
  rw [in_0 (A := 0) 0 (σ.1 11 0 34 - 1) rfl rfl (h.imp id (fun q => by rw [h0]; exact le_pred (by omega) q))]
  simp only [Option.bind_some]
  exact tv_01 (Or.inl rfl)
/-! the parts of the relation, each where its cells stay -/
theorem rTape.mv {σc σm σc' σm' : zH} (h : rTape σc σm) (e1 : σc'.1 9 0 1 = σc.1 9 0 1) (e2 : σc'.1 37 0 = σc.1 37 0) (e3 : σm'.1 11 0 30 = σm.1 11 0 30) (e4 : σm'.1 70 0 = σm.1 70 0) : rTape σc' σm' := by
  obtain ⟨t, t1, t2, t3, t4⟩ := h
  exact ⟨t, t1, by rw [e1]; exact t2, by rw [e3]; exact t3, fun i hi => by rw [e2, e4]; exact t4 i hi⟩
theorem rLaws.mv {σc σm σc' σm' : zH} (h : rLaws σc σm) (e1 : σc'.1 10 0 5 = σc.1 10 0 5) (e2 : ∀ k r, k = 4 ∨ (24 ≤ k ∧ k ≤ 27) → σc'.1 k r = σc.1 k r) (e3 : σm'.1 11 0 34 = σm.1 11 0 34) (e4 : ∀ k, 71 ≤ k ∧ k ≤ 76 → σm'.1 k 0 = σm.1 k 0) : rLaws σc' σm' := by
  obtain ⟨L, l1, l2, l3, l4⟩ := h
  refine ⟨L, l1, by rw [e1]; exact l2, by rw [e3]; exact l3, fun r hr => ?_⟩
  obtain ⟨cl, c1, c2⟩ := l4 r hr
  exact ⟨cl, c1.mv (fun k hk => e2 k r hk), c2.mv e4⟩
theorem rImg.mv {σc σm σc' σm' : zH} (h : rImg σc σm) (e1 : σc'.1 41 0 = σc.1 41 0) (e2 : ∀ k i, k = 0 ∨ (12 ≤ k ∧ k ≤ 20) → 2 ≤ i ∧ i ≤ 5 → σc'.1 k i = σc.1 k i) (e3 : ∀ k i, k = 6 ∨ k = 8 ∨ (30 ≤ k ∧ k ≤ 36) → 1 ≤ i ∧ i ≤ 4 → σc'.1 k i = σc.1 k i) (e4 : σm'.1 91 0 = σm.1 91 0) (e5 : σm'.1 90 0 = σm.1 90 0) (e6 : σm'.1 11 0 29 = σm.1 11 0 29) : rImg σc' σm' := by
  intro k hk
  obtain ⟨b, b1, b2, b3⟩ := h k hk
  refine ⟨b, by rw [e1]; exact b1, by rw [e4]; exact b2, fun hb => ?_⟩
  obtain ⟨E, wt, D, v⟩ := b3 hb
  have h90 : ∀ k' j, k' ≠ 11 → (imgH σm' k).1 k' 0 j = (imgH σm k).1 k' 0 j := fun k' j hk' => by
    rw [imgH_ne _ _ hk', imgH_ne _ _ hk', e5]
  exact ⟨E, wt, D, v.mv (fun k' hk' => e2 k' (k + 1 + 1) hk' (by omega)) (fun k' hk' => e3 k' (k + 1) hk' (by omega)) (fun k' hk' j => h90 k' j (by omega)) (fun j _ => h90 42 j (by omega)) (fun k' a b j _ => h90 k' j (by omega)) e6⟩
/-- the live one has changed: counts, log and bells as they were -/
theorem rLive.upd {σ τ σ' τ' : zH} {s : Nat} {E E' : qE} {wt wt' : Int32} {D D' : qD} (h : rLive σ s τ E wt D) (p : rP 0 σ' s E' wt' D') (m : rMP 0 τ' (-1) E' wt' D') (hnow : D' 7 0 = D 7 0)
    (c1 : σ'.1 8 s 12 = σ.1 8 s 12) (c2 : σ'.1 8 s 13 = σ.1 8 s 13) (c3 : τ'.1 42 0 5 = τ.1 42 0 5) (c4 : τ'.1 42 0 6 = τ.1 42 0 6) (c5 : τ'.1 42 0 9 = τ.1 42 0 9) (c6 : σ'.1 6 s = σ.1 6 s) (c7 : σ'.1 30 s = σ.1 30 s) (c8 : ∀ j, j < 192 → τ'.1 66 0 j = τ.1 66 0 j)
    (b1 : σ'.1 0 (s + 1) 5 = σ.1 0 (s + 1) 5) (b2 : σ'.1 0 (s + 1) 8 = σ.1 0 (s + 1) 8) (b3 : σ'.1 16 (s + 1) = σ.1 16 (s + 1)) (b4 : σ'.1 17 (s + 1) = σ.1 17 (s + 1)) (b5 : τ'.1 42 0 1 = τ.1 42 0 1) (b6 : τ'.1 42 0 2 = τ.1 42 0 2) (b7 : τ'.1 47 0 = τ.1 47 0) (b8 : τ'.1 48 0 = τ.1 48 0) : rLive σ' s τ' E' wt' D' := by
  obtain ⟨a1, a2, a3, a4, a5, a6, ⟨sz, q, a7, a8, a9, a10, a11, a12⟩, a13, b, a14, a15, a16, a17⟩ := h
  refine ⟨p, m, ⟨by rw [c1, c3]; exact a3.1, by rw [c2, c4]; exact a3.2⟩, by rw [c3, hnow]; exact a4, by rw [c3, c4]; exact a5, by rw [hnow]; exact a6, ⟨sz, q, a7, a8, by rw [c6]; exact a9, by rw [c6]; exact a10, by rw [c5]; exact a11, fun k hk1 hk2 => ?_⟩, by rw [b2, b6]; exact a13, b, a14, by rw [b1]; exact a15, by rw [b5]; exact a16, fun i hi => by rw [b3, b4, b7, b8]; exact a17 i hi⟩
  rw [c7, c8 _ (by omega)]
  exact a12 k hk1 hk2
/-- the live one alone has changed, on both sides -/
def Gl (k i : Nat) : Prop := Gc k i ∨ ((k = 8 ∨ (31 ≤ k ∧ k ≤ 36)) ∧ i = 0) ∨ ((k = 6 ∨ k = 30) ∧ i = 0)
theorem qR.l {σc σm σc' σm' : zH} (h : qR σc σm) (hz : zsm Gl σc σc') (m1 : ∀ k, (70 ≤ k ∧ k ≤ 76) ∨ k = 90 ∨ k = 91 → σm'.1 k 0 = σm.1 k 0) (m2 : ∀ j, j = 29 ∨ j = 30 ∨ j = 34 ∨ j = 39 → σm'.1 11 0 j = σm.1 11 0 j) (hl : ∃ E wt D, rLive σc' 0 σm' E wt D) : qR σc' σm' := by
  obtain ⟨t, l, -, i, w⟩ := h
  refine ⟨t.mv (by rw [(hz 9 0 (by unfold Gl Gc; omega)).1]) (hz 37 0 (by unfold Gl Gc; omega)).1 (m2 30 (by omega)) (m1 70 (by omega)), l.mv (by rw [(hz 10 0 (by unfold Gl Gc; omega)).1]) (fun k r hk => (hz k r (by unfold Gl Gc; omega)).1) (m2 34 (by omega)) (fun k hk => m1 k (by omega)), hl,
    i.mv (hz 41 0 (by unfold Gl Gc; omega)).1 (fun k i hk hi => (hz k i (by unfold Gl Gc; omega)).1) (fun k i hk hi => (hz k i (by unfold Gl Gc; omega)).1) (m1 91 (by omega)) (m1 90 (by omega)) (m2 29 (by omega)), by rw [m2 39 (by omega)]; exact w.1, w.2.mv (fun k i hk h1 h2 => (hz k i (by unfold Gl Gc; omega)).1)⟩
