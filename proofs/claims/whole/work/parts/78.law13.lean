/-! CALLS: law, clauses -/
def Fl (L k i : Nat) : Prop := Fq L k i ∨ ((k = 24 ∨ k = 25) ∧ i = L)
def Fml (L k j : Nat) : Prop := k = 77 ∨ (k = 11 ∧ (j = 31 ∨ j = 32 ∨ j = 35 ∨ j = 36 ∨ j = 37 ∨ j = 38)) ∨ ((k = 71 ∨ k = 72) ∧ 300 * L ≤ j ∧ j < 300 * L + 300) ∨ ((k = 74 ∨ k = 75 ∨ k = 76) ∧ 12 * L ≤ j ∧ j < 12 * L + 12)
/-- the clauses read so far, on either side -/
def rLq (σ : zH) (L : Nat) (cl : List (Bool × List qop)) (B : Nat) : Prop := ∀ i k code, cl[i]? = some (k, code) → σ.1 24 L i = b2i k ∧ qty code [] = some [true] ∧ qps code ≤ 60 ∧ ∃ b', b' + code.length ≤ B ∧ σ.1 25 L i = nI b' ∧ σ.1 25 L (i + 1) = nI (b' + code.length) ∧ cdAt (σ.1 26 L) (σ.1 27 L) qren b' code
def rMq (σ : zH) (L : Nat) (cl : List (Bool × List qop)) (B : Nat) : Prop := ∀ i k code, cl[i]? = some (k, code) → σ.1 74 0 (12 * L + i) = b2i (!k) ∧ qty code [] = some [true] ∧ qps code ≤ 60 ∧ ∃ b', b' + code.length ≤ B ∧ σ.1 75 0 (12 * L + i) = nI b' ∧ σ.1 76 0 (12 * L + i) = nI (b' + code.length) ∧ cdAt (fun j => σ.1 71 0 (300 * L + j)) (fun j => σ.1 72 0 (300 * L + j)) nI b' code
theorem rLq.mv {σ σ' : zH} {L B B' : Nat} {cl : List (Bool × List qop)} (h : rLq σ L cl B) (hB : B ≤ B') (e1 : ∀ i, i < cl.length → σ'.1 24 L i = σ.1 24 L i) (e2 : ∀ i, i ≤ cl.length → 0 < cl.length → σ'.1 25 L i = σ.1 25 L i) (e3 : ∀ j, j < B → σ'.1 26 L j = σ.1 26 L j ∧ σ'.1 27 L j = σ.1 27 L j) : rLq σ' L cl B' := fun i k code hi => by
  have hl := (List.getElem?_eq_some_iff.mp hi).1
  obtain ⟨a1, a2, a3, b', a4, a5, a6, a7⟩ := h i k code hi
  exact ⟨by rw [e1 i hl]; exact a1, a2, a3, b', by omega, by rw [e2 i (by omega) (by omega)]; exact a5, by rw [e2 (i + 1) (by omega) (by omega)]; exact a6, cdAt_cg a7 (fun j _ q => e3 j (by omega))⟩
theorem rMq.mv {σ σ' : zH} {L B B' : Nat} {cl : List (Bool × List qop)} (h : rMq σ L cl B) (hB : B ≤ B') (e1 : ∀ k i, 74 ≤ k → k ≤ 76 → i < cl.length → σ'.1 k 0 (12 * L + i) = σ.1 k 0 (12 * L + i)) (e3 : ∀ j, j < B → σ'.1 71 0 (300 * L + j) = σ.1 71 0 (300 * L + j) ∧ σ'.1 72 0 (300 * L + j) = σ.1 72 0 (300 * L + j)) : rMq σ' L cl B' := fun i k code hi => by
  have hl := (List.getElem?_eq_some_iff.mp hi).1
  obtain ⟨a1, a2, a3, b', a4, a5, a6, a7⟩ := h i k code hi
  exact ⟨by rw [e1 74 i (by omega) (by omega) hl]; exact a1, a2, a3, b', by omega, by rw [e1 75 i (by omega) (by omega) hl]; exact a5, by rw [e1 76 i (by omega) (by omega) hl]; exact a6, cdAt_cg a7 (fun j _ q => e3 j (by omega))⟩
theorem snoc_get {α : Type} {cl : List α} {x y : α} {i : Nat} (h : (cl ++ [x])[i]? = some y) : (cl[i]? = some y) ∨ (i = cl.length ∧ y = x) := by
  by_cases hi : i < cl.length
  · rw [List.getElem?_append_left hi] at h; exact Or.inl h
  · have hl := (List.getElem?_eq_some_iff.mp h).1
    rw [List.length_append, List.length_singleton] at hl
    have : i = cl.length := by omega
    subst this
    rw [List.getElem?_append_right (Nat.le_refl _), Nat.sub_self] at h
    exact Or.inr ⟨rfl, (Option.some.inj h).symm⟩
theorem rLq.snoc {σ : zH} {L B : Nat} {cl : List (Bool × List qop)} {k : Bool} {code : List qop} (h : rLq σ L cl (B + code.length)) (h1 : σ.1 24 L cl.length = b2i k) (h2 : qty code [] = some [true]) (h3 : qps code ≤ 60) (h5 : σ.1 25 L cl.length = nI B) (h6 : σ.1 25 L (cl.length + 1) = nI (B + code.length)) (h7 : cdAt (σ.1 26 L) (σ.1 27 L) qren B code) : rLq σ L (cl ++ [(k, code)]) (B + code.length) := fun i k' code' hi => by
  rcases snoc_get hi with hi | ⟨rfl, e⟩
  · exact h i k' code' hi
  · cases e
    exact ⟨h1, h2, h3, B, Nat.le_refl _, h5, h6, h7⟩
theorem rMq.snoc {σ : zH} {L B : Nat} {cl : List (Bool × List qop)} {k : Bool} {code : List qop} (h : rMq σ L cl (B + code.length)) (h1 : σ.1 74 0 (12 * L + cl.length) = b2i (!k)) (h2 : qty code [] = some [true]) (h3 : qps code ≤ 60) (h5 : σ.1 75 0 (12 * L + cl.length) = nI B) (h6 : σ.1 76 0 (12 * L + cl.length) = nI (B + code.length)) (h7 : cdAt (fun j => σ.1 71 0 (300 * L + j)) (fun j => σ.1 72 0 (300 * L + j)) nI B code) : rMq σ L (cl ++ [(k, code)]) (B + code.length) := fun i k' code' hi => by
  rcases snoc_get hi with hi | ⟨rfl, e⟩
  · exact h i k' code' hi
  · cases e
    exact ⟨h1, h2, h3, B, Nat.le_refl _, h5, h6, h7⟩
section
variable {b : Nat → Int32} {t : Nat} {σ : zH} {p q : Nat} {f : Int32}
/-- does the reference go on -/
theorem x11_goes (h : txm b t σ) (hp : σ.1 11 0 31 = nI p) (hf : σ.1 11 0 32 = f) (hpt : if f = 0 then p ≤ t else p ≤ 402) : ∃ σ' go, d_X11_goesOn σ = some (σ', b2i go) ∧ zm2 σ σ' ∧ (¬ f = 0 → go = false ∧ σ'.1 11 0 32 = f) ∧ (f = 0 → (go = true → pk b t (en isB b t p) = 59 ∧ σ'.1 11 0 31 = nI (en isB b t p + 1)) ∧ (pk b t (en isB b t p) = 59 → go = true) ∧ σ'.1 11 0 32 = if pk b t (en isB b t p) = 59 ∨ pk b t (en isB b t p) = -1 then 0 else flt 0 0 (en isB b t p)) := by
  have ht := h.1
  unfold d_X11_goesOn
  by_cases hf0 : f = 0
  · rw [if_pos hf0] at hpt
    obtain ⟨m1, e1, z1⟩ := x11_blanks h hp hpt
    have hq := (en_spec isB_m1 b t p).2.1 hpt
    generalize en isB b t p = q at z1 hq
    have m32 : m1.1 11 0 32 = 0 := by rw [z1.2.1 11 0 32 (by omega), hf]; exact hf0
    have m30 : m1.1 11 0 30 = nI t := by rw [z1.2.1 11 0 30 (by omega)]; exact h.2.1
    have j0 := x11_j63 z1.2.2 false
    have j1 := x11_j63 z1.2.2 true
    rw [b2i_f] at j0
    rw [b2i_t] at j1
    rw [e1]
    simp only [Option.bind_some]
    rw [if_pos m32, z1.2.2, m30]
    by_cases hlt : q < t
    · rw [if_pos (nI_lt hlt (by omega)), x11_sign (z1.tx h) z1.2.2 (by omega)]
      simp only [Option.bind_some]
      have hne : ¬ pk b t q = -1 := by rw [pkb_in hlt]; exact h.b0 hlt
      by_cases h59 : pk b t q = 59
      · rw [if_pos h59]
        unfold j_X11_goesOn_40
        rw [if_pos m32, z1.2.2, m30, if_pos (nI_lt hlt (by omega)), j1]
        exact ⟨_, true, rfl, z1.m2.uI (Or.inl rfl) _, fun c => absurd hf0 c, fun _ => ⟨fun _ => ⟨h59, by rw [uI_1, if_pos ⟨rfl, rfl, rfl⟩]⟩, fun _ => rfl, by rw [if_pos (Or.inl h59), uI_1, if_neg (by omega)]; exact m32⟩⟩
      · obtain ⟨m2, w1, w2, w3, w4⟩ := x11_fails m1 0 q
        rw [if_neg h59, z1.2.2, w1]
        simp only [Option.bind_some]
        have n0 : ¬ flt 0 0 q = 0 := flt_n0 (by omega) (by decide) (by decide)
        have m2f : m2.1 11 0 32 = flt 0 0 q := by rw [w3, m32]
        have j2 := x11_j63 (show m2.1 11 0 31 = nI q by rw [w4]; exact z1.2.2) false
        rw [b2i_f] at j2
        unfold j_X11_goesOn_40 j_X11_goesOn_62
        rw [if_neg (by rw [m2f]; exact n0), j2]
        exact ⟨_, false, rfl, (z1.m2.tr w2).uI (Or.inl rfl) _, fun c => absurd hf0 c, fun _ => ⟨fun e => (by cases e), fun c => absurd c h59, by rw [if_neg (fun c => c.elim h59 hne), uI_1, if_neg (by omega)]; exact m2f⟩⟩
    · have hend : pk b t q = -1 := pkb_end (by omega)
      rw [if_neg (nI_nlt (by omega) (by omega))]
      unfold j_X11_goesOn_40 j_X11_goesOn_62
      rw [if_pos m32, z1.2.2, m30, if_neg (nI_nlt (by omega) (by omega)), j0]
      exact ⟨_, false, rfl, z1.m2.uI (Or.inl rfl) _, fun c => absurd hf0 c, fun _ => ⟨fun e => (by cases e), fun c => by rw [hend] at c; exact absurd c (by decide), by rw [if_pos (Or.inr hend), uI_1, if_neg (by omega)]; exact m32⟩⟩
  · rw [if_neg hf0] at hpt
    obtain ⟨m1, p', e1, z1, -, -⟩ := x11_blanksF h hp hpt
    have m32 : m1.1 11 0 32 = f := by rw [z1.2.1 11 0 32 (by omega)]; exact hf
    have j0 := x11_j63 z1.2.2 false
    rw [b2i_f] at j0
    rw [e1]
    simp only [Option.bind_some]
    unfold j_X11_goesOn_40 j_X11_goesOn_62
    rw [m32, if_neg hf0, if_neg hf0, j0]
    exact ⟨_, false, rfl, z1.m2.uI (Or.inl rfl) _, fun _ => ⟨rfl, by rw [uI_1, if_neg (by omega)]; exact m32⟩, fun c => absurd c hf0⟩
end
