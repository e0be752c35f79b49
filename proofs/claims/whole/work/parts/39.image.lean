/-! CALLS: image, back -/
theorem rMC.mvb {σ σ' : zH} {w : Int32} {E : qE} (h : rMC σ w E) (h1 : ∀ k j, 43 ≤ k → k ≤ 46 → j < 12 → σ'.1 k 0 j = σ.1 k 0 j) (h3 : ∀ k j, 47 ≤ k → k ≤ 51 → j < 8 → σ'.1 k 0 j = σ.1 k 0 j) (h2 : ∀ j, j < 11 → σ'.1 42 0 j = σ.1 42 0 j) (h4 : σ'.1 11 0 29 = σ.1 11 0 29) : rMC σ' w E := by
  obtain ⟨c1, c2, c3, ⟨b, c4, c5, c6, c12⟩, ⟨d, c7, c8, c9⟩, c10, c11⟩ := h
  refine ⟨c1, by rw [h2 0 (by omega)]; exact c2, fun r i hr hi => by rw [h1 (43 + r) i (by omega) (by omega) (by omega)]; exact c3 r i hr hi, ⟨b, c4, by rw [h2 1 (by omega)]; exact c5, fun q => ?_, fun q => ?_⟩, ⟨d, c7, by rw [h2 2 (by omega)]; exact c8, fun k q => ?_⟩, by rw [h2 8 (by omega)]; exact c10, by rw [h4]; exact c11⟩
  · rw [c6]
    exact qfst_cong (fun i hi => by rw [h3 47 i (by omega) (by omega) (by omega)])
  · rw [c12]
    split
    · rfl
    · rename_i e
      rw [c6] at e ⊢
      rcases qfst_cases (fun i => !decide (nI i = w) && decide (σ.1 47 0 i = q)) b with ⟨-, e2⟩ | ⟨i, hi, -, -, e2⟩
      · exact absurd e2 e
      · rw [e2, nI_clamp (by omega), h3 48 i (by omega) (by omega) (by omega)]
  · rw [c9]
    exact qfst_cong (fun i hi => by rw [h3 49 i (by omega) (by omega) (by omega), h3 50 i (by omega) (by omega) (by omega), h3 51 i (by omega) (by omega) (by omega)])
theorem rLive.cpy {σ τ σ' τ' : zH} {s s' : Nat} {E : qE} {wt : Int32} {D : qD} (h : rLive σ s τ E wt D) (p : rP 0 σ' s' E wt D) (c1 : σ'.1 8 s' 12 = σ.1 8 s 12) (c2 : σ'.1 8 s' 13 = σ.1 8 s 13) (c3 : σ'.1 6 s' 1 = σ.1 6 s 1) (c4 : σ'.1 6 s' 2 = σ.1 6 s 2) (c5 : ∀ j, j < 192 → σ'.1 30 s' j = σ.1 30 s j)
    (b1 : σ'.1 0 (s' + 1) 5 = σ.1 0 (s + 1) 5) (b2 : σ'.1 0 (s' + 1) 8 = σ.1 0 (s + 1) 8) (b3 : ∀ j, j < 8 → σ'.1 16 (s' + 1) j = σ.1 16 (s + 1) j ∧ σ'.1 17 (s' + 1) j = σ.1 17 (s + 1) j)
    (m1 : ∀ k j, 43 ≤ k → k ≤ 46 → j < 12 → τ'.1 k 0 j = τ.1 k 0 j) (m2 : ∀ k j, 47 ≤ k → k ≤ 51 → j < 8 → τ'.1 k 0 j = τ.1 k 0 j) (m3 : ∀ j, j < 11 → τ'.1 42 0 j = τ.1 42 0 j) (m4 : ∀ k, 62 ≤ k → k ≤ 69 → ∀ j, j < klen k → τ'.1 k 0 j = τ.1 k 0 j) (m5 : τ'.1 11 0 29 = τ.1 11 0 29) : rLive σ' s' τ' E wt D := by
  obtain ⟨a1, ⟨hC, hS, hO, hw⟩, a3, a4, a5, a6, ⟨sz, q, a7, a8, a9, a10, a11, a12⟩, a13, b, a14, a15, a16, a17⟩ := h
  have hn := hC.1
  refine ⟨p, ⟨hC.mvb m1 m2 m3 m5, ⟨by rw [m3 4 (by omega)]; exact hS.1, by rw [m3 10 (by omega)]; exact hS.2.1, by rw [m3 7 (by omega)]; exact hS.2.2.1, fun r i hr hi => ?_⟩, hO, by rw [m3 3 (by omega)]; exact hw⟩, ⟨by rw [c1, m3 5 (by omega)]; exact a3.1, by rw [c2, m3 6 (by omega)]; exact a3.2⟩, by rw [m3 5 (by omega)]; exact a4, by rw [m3 5 (by omega), m3 6 (by omega)]; exact a5, a6,
    ⟨sz, q, a7, a8, by rw [c3]; exact a9, by rw [c4]; exact a10, by rw [m3 9 (by omega)]; exact a11, fun k hk1 hk2 => ?_⟩, by rw [b2, m3 2 (by omega)]; exact a13, b, a14, by rw [b1]; exact a15, by rw [m3 1 (by omega)]; exact a16, fun i hi => ?_⟩
  · have hm := mrow_lt hr
    rw [m4 (mrow r) hm.1 hm.2.1 i (by unfold klen; rw [if_neg hm.2.2]; omega)]
    exact hS.2.2.2 r i hr hi
  · rw [c5 _ (by omega), m4 66 (by omega) (by omega) _ (by unfold klen; rw [if_pos rfl]; omega)]
    exact a12 k hk1 hk2
  · rw [(b3 i (by omega)).1, (b3 i (by omega)).2, m2 47 i (by omega) (by omega) (by omega), m2 48 i (by omega) (by omega) (by omega)]
    exact a17 i hi
theorem x11_carry {a L p : Nat} (ha : aT a = 0) (hA : aN a = L) (hL : L < 4000) (hp : p + L ≤ 1560) (na : a ≠ 90) (nb : a ≠ 11) (bk : Bool) {σ : zH} (h66 : σ.1 11 0 66 = b2i bk) (h65 : σ.1 11 0 65 = nI p) :
    zwp (d_X11_carry σ a 0) (fun σ' => σ'.2 = σ.2 ∧ σ'.1 11 0 65 = nI (p + L) ∧ (∀ k i j, ¬ (k = 11 ∧ i = 0 ∧ j = 65) → ¬ (bk = false ∧ k = 90 ∧ i = 0 ∧ p ≤ j ∧ j < p + L) → ¬ (bk = true ∧ k = a ∧ i = 0 ∧ j < L) → σ'.1 k i j = σ.1 k i j) ∧
      ∀ j, j < L → σ'.1 90 0 (p + j) = σ'.1 a 0 j) := by
  unfold d_X11_carry
  rw [nI_c0]
  refine zwp_for (fun f i (σ' : zH) => k_X11_carry_2 f σ' a 0 (nI i)) (fun i σ' => σ'.2 = σ.2 ∧ σ'.1 11 0 65 = nI (p + i) ∧ (∀ k i' j, ¬ (k = 11 ∧ i' = 0 ∧ j = 65) → ¬ (bk = false ∧ k = 90 ∧ i' = 0 ∧ p ≤ j ∧ j < p + i) → ¬ (bk = true ∧ k = a ∧ i' = 0 ∧ j < i) → σ'.1 k i' j = σ.1 k i' j) ∧
      ∀ j, j < i → σ'.1 90 0 (p + j) = σ'.1 a 0 j) _ 0 L (by omega) (by omega) ?_ ?_ σ ⟨rfl, h65, fun _ _ _ _ _ _ => rfl, fun j hj => by omega⟩
  · rintro f i σ' hi ⟨h1, h2, h3, h4⟩ IH
    have g66 : σ'.1 11 0 66 = b2i bk := by rw [h3 11 0 66 (by omega) (by omega) (by omega)]; exact h66
    rw [k_X11_carry_2, ha, hA]
    show zwp (if nI i < nI L then (if σ'.1 11 0 66 = 0 then ix (nI i) L fun j1 => ix (σ'.1 11 0 65) 1560 fun j3 => zlet (uI σ' 90 0 j3 (σ'.1 a 0 j1)) fun σ2 => (j_X11_carry_42 (k_X11_carry_2 f)) σ2 a 0 (nI i)
        else ix (σ'.1 11 0 65) 1560 fun j4 => ix (nI i) L fun j6 => zlet (uI σ' a 0 j6 (σ'.1 90 0 j4)) fun σ5 => (j_X11_carry_42 (k_X11_carry_2 f)) σ5 a 0 (nI i)) else some σ') _
    rw [if_pos (nI_lt hi (by omega)), g66, h2]
    unfold j_X11_carry_42
    cases bk with
    | false =>
      rw [if_pos (show b2i false = 0 from rfl), ix_nI hi (by omega), ix_nI (by omega) (by omega), nI_1]
      refine zwp_let.mpr ?_
      have e : (uI σ' 90 0 (p + i) (σ'.1 a 0 i)).1 11 0 65 = nI (p + i) := by rw [uI_1, if_neg (by omega)]; exact h2
      rw [e, nI_1]
      refine zwp_let.mpr ?_
      refine IH (uI (uI σ' 90 0 (p + i) (σ'.1 a 0 i)) 11 0 65 (nI (p + i + 1))) ⟨h1, by rw [uI_1, if_pos ⟨rfl, rfl, rfl⟩]; rfl, fun k i' j q1 q2 q3 => ?_, fun j hj => ?_⟩
      · rw [uI_1, if_neg q1, uI_1, if_neg (fun q => q2 ⟨rfl, q.1, q.2.1, by omega, by omega⟩)]
        exact h3 k i' j q1 (fun q => q2 ⟨rfl, q.2.1, q.2.2.1, q.2.2.2.1, by omega⟩) (fun q => by cases q.1)
      · have q1 : (uI (uI σ' 90 0 (p + i) (σ'.1 a 0 i)) 11 0 65 (nI (p + i + 1))).1 90 0 (p + j) = (uI σ' 90 0 (p + i) (σ'.1 a 0 i)).1 90 0 (p + j) := by rw [uI_1, if_neg (by omega)]
        have q2 : (uI (uI σ' 90 0 (p + i) (σ'.1 a 0 i)) 11 0 65 (nI (p + i + 1))).1 a 0 j = σ'.1 a 0 j := by rw [uI_1, if_neg (by omega), uI_1, if_neg (by omega)]
        rw [q1, q2, uI_1]
        by_cases ej : j = i
        · rw [if_pos ⟨rfl, rfl, by omega⟩, ej]
        · rw [if_neg (by omega)]
          exact h4 j (by omega)
    | true =>
      rw [if_neg (show ¬ b2i true = 0 by decide), ix_nI (by omega) (by omega), ix_nI hi (by omega), nI_1]
      refine zwp_let.mpr ?_
      have e : (uI σ' a 0 i (σ'.1 90 0 (p + i))).1 11 0 65 = nI (p + i) := by rw [uI_1, if_neg (by omega)]; exact h2
      rw [e, nI_1]
      refine zwp_let.mpr ?_
      refine IH (uI (uI σ' a 0 i (σ'.1 90 0 (p + i))) 11 0 65 (nI (p + i + 1))) ⟨h1, by rw [uI_1, if_pos ⟨rfl, rfl, rfl⟩]; rfl, fun k i' j q1 q2 q3 => ?_, fun j hj => ?_⟩
      · rw [uI_1, if_neg q1, uI_1, if_neg (fun q => q3 ⟨rfl, q.1, q.2.1, by omega⟩)]
        exact h3 k i' j q1 (fun q => by cases q.1) (fun q => q3 ⟨rfl, q.2.1, q.2.2.1, by omega⟩)
      · have q1 : (uI (uI σ' a 0 i (σ'.1 90 0 (p + i))) 11 0 65 (nI (p + i + 1))).1 90 0 (p + j) = σ'.1 90 0 (p + j) := by rw [uI_1, if_neg (by omega), uI_1, if_neg (by omega)]
        have q2 : (uI (uI σ' a 0 i (σ'.1 90 0 (p + i))) 11 0 65 (nI (p + i + 1))).1 a 0 j = (uI σ' a 0 i (σ'.1 90 0 (p + i))).1 a 0 j := by rw [uI_1, if_neg (by omega)]
        rw [q1, q2, uI_1]
        by_cases ej : j = i
        · rw [if_pos ⟨rfl, rfl, ej⟩, ej]
        · rw [if_neg (by omega)]
          exact h4 j (by omega)
  · rintro f σ' ⟨h1, h2, h3, h4⟩
    rw [k_X11_carry_2, ha, hA]
    show zwp (if nI L < nI L then _ else some σ') _
    rw [if_neg (nI_nlt (Nat.le_refl _) (by omega))]
    exact zwp_some.mpr ⟨h1, h2, h3, h4⟩
/-- the rows of an image, in their order -/
def irows : List Nat := [42, 43, 44, 45, 46, 47, 48, 49, 50, 51, 62, 63, 64, 65, 66, 67, 68, 69]
noncomputable def carL : List Nat → zH → Option zH
  | [], σ => some σ
  | a :: t, σ => (d_X11_carry σ a 0).bind (carL t)
def itot : List Nat → Nat
  | [] => 0
  | a :: t => aN a + itot t
/-- rows g stand in f from p on -/
def imgOK (f : Nat → Int32) (g : Nat → Nat → Int32) : List Nat → Nat → Prop
  | [], _ => True
  | a :: t, p => (∀ j, j < aN a → f (p + j) = g a j) ∧ imgOK f g t (p + aN a)
theorem imgOK.cong {f f' : Nat → Int32} {g g' : Nat → Nat → Int32} : ∀ {l : List Nat} {p : Nat}, imgOK f g l p → (∀ j, p ≤ j → j < p + itot l → f' j = f j) → (∀ a, a ∈ l → ∀ j, j < aN a → g' a j = g a j) → imgOK f' g' l p
  | [], _, _, _, _ => trivial
  | a :: t, p, h, hf, hg => ⟨fun j hj => by rw [hf _ (by omega) (by rw [itot]; omega), hg a List.mem_cons_self j hj]; exact h.1 j hj, h.2.cong (fun j h1 h2 => hf j (by omega) (by rw [itot]; omega)) (fun b hb => hg b (List.mem_cons_of_mem _ hb))⟩
def rowOK (a : Nat) : Prop := aT a = 0 ∧ aN a < 4000 ∧ a ≠ 90 ∧ a ≠ 11
theorem carL_ok (bk : Bool) : ∀ (l : List Nat) (p : Nat) (σ : zH), (∀ a, a ∈ l → rowOK a) → l.Nodup → p + itot l ≤ 1560 → σ.1 11 0 66 = b2i bk → σ.1 11 0 65 = nI p →
    zwp (carL l σ) (fun σ' => σ'.2 = σ.2 ∧ (∀ k i j, ¬ (k = 11 ∧ i = 0 ∧ j = 65) → ¬ (bk = false ∧ k = 90 ∧ i = 0 ∧ p ≤ j ∧ j < p + itot l) → ¬ (bk = true ∧ k ∈ l ∧ i = 0 ∧ j < aN k) → σ'.1 k i j = σ.1 k i j) ∧ imgOK (σ'.1 90 0) (fun a => σ'.1 a 0) l p)
  | [], p, σ, _, _, _, _, _ => zwp_some.mpr ⟨rfl, fun _ _ _ _ _ _ => rfl, trivial⟩
  | a :: t, p, σ, hr, hd, hp, h66, h65 => by
    rw [itot] at hp
    obtain ⟨r1, r2, r3, r4⟩ := hr a List.mem_cons_self
    rw [List.nodup_cons] at hd
    refine zwp_to (x11_carry r1 rfl r2 (show p + aN a ≤ 1560 by omega) r3 r4 bk h66 h65) (fun σ1 h1 => ?_)
    obtain ⟨g1, g2, g3, g4⟩ := h1
    refine zwp_mono (carL_ok bk t (p + aN a) σ1 (fun b hb => hr b (List.mem_cons_of_mem _ hb)) hd.2 (by omega) (by rw [g3 11 0 66 (by omega) (by omega) (by omega)]; exact h66) g2) (fun σ2 h2 => ?_)
    obtain ⟨k1, k2, k3⟩ := h2
    refine ⟨k1.trans g1, fun k i j q1 q2 q3 => ?_, ⟨fun j hj => ?_, k3⟩⟩
    · rw [k2 k i j q1 (fun q => q2 ⟨q.1, q.2.1, q.2.2.1, by omega, by rw [itot]; omega⟩) (fun q => q3 ⟨q.1, List.mem_cons_of_mem _ q.2.1, q.2.2⟩)]
      exact g3 k i j q1 (fun q => q2 ⟨q.1, q.2.1, q.2.2.1, q.2.2.2.1, by rw [itot]; omega⟩) (fun q => q3 ⟨q.1, by rw [q.2.1]; exact List.mem_cons_self, q.2.2.1, by rw [q.2.1]; exact q.2.2.2⟩)
    · show σ2.1 90 0 (p + j) = σ2.1 a 0 j
      rw [k2 90 0 (p + j) (by omega) (by omega) (fun q => (hr 90 (List.mem_cons_of_mem _ q.2.1)).2.2.1 rfl), k2 a 0 j (by omega) (by omega) (fun q => hd.1 q.2.1)]
      exact g4 j hj
theorem irows_ok : ∀ a, a ∈ irows → rowOK a := by
  unfold rowOK
  decide +kernel
theorem irows_tot : itot irows = 375 := by decide +kernel
/-- the image's rows, one by one -/
theorem imgOK_row {f : Nat → Int32} {g : Nat → Nat → Int32} {p : Nat} (h : imgOK f g irows p) : (∀ j, j < 11 → f (p + ioff 42 + j) = g 42 j) ∧ (∀ k j, 43 ≤ k → k ≤ 46 → j < 12 → f (p + ioff k + j) = g k j) ∧ (∀ k j, 47 ≤ k → k ≤ 51 → j < 8 → f (p + ioff k + j) = g k j) ∧ (∀ k, 62 ≤ k → k ≤ 69 → ∀ j, j < klen k → f (p + ioff k + j) = g k j) := by
  have n42 : aN 42 = 11 := by decide +kernel
  have n12 : ∀ k, k < 70 → ((43 ≤ k ∧ k ≤ 46) ∨ (62 ≤ k ∧ k ≤ 65) ∨ 67 ≤ k) → aN k = 12 := by decide +kernel
  have n8 : ∀ k, k < 52 → 47 ≤ k → aN k = 8 := by decide +kernel
  have n66 : aN 66 = 192 := by decide +kernel
  obtain ⟨h1, h2, h3, h4, h5, h6, h7, h8, h9, h10, h11, h12, h13, h14, h15, h16, h17, h18, -⟩ := h
  rw [n42] at h1 h2 h3 h4 h5 h6 h7 h8 h9 h10 h11 h12 h13 h14 h15 h16 h17 h18
  rw [n12 43 (by omega) (by omega)] at h2 h3 h4 h5 h6 h7 h8 h9 h10 h11 h12 h13 h14 h15 h16 h17 h18
  rw [n12 44 (by omega) (by omega)] at h3 h4 h5 h6 h7 h8 h9 h10 h11 h12 h13 h14 h15 h16 h17 h18
  rw [n12 45 (by omega) (by omega)] at h4 h5 h6 h7 h8 h9 h10 h11 h12 h13 h14 h15 h16 h17 h18
  rw [n12 46 (by omega) (by omega)] at h5 h6 h7 h8 h9 h10 h11 h12 h13 h14 h15 h16 h17 h18
  rw [n8 47 (by omega) (by omega)] at h6 h7 h8 h9 h10 h11 h12 h13 h14 h15 h16 h17 h18
  rw [n8 48 (by omega) (by omega)] at h7 h8 h9 h10 h11 h12 h13 h14 h15 h16 h17 h18
  rw [n8 49 (by omega) (by omega)] at h8 h9 h10 h11 h12 h13 h14 h15 h16 h17 h18
  rw [n8 50 (by omega) (by omega)] at h9 h10 h11 h12 h13 h14 h15 h16 h17 h18
  rw [n8 51 (by omega) (by omega)] at h10 h11 h12 h13 h14 h15 h16 h17 h18
  rw [n12 62 (by omega) (by omega)] at h11 h12 h13 h14 h15 h16 h17 h18
  rw [n12 63 (by omega) (by omega)] at h12 h13 h14 h15 h16 h17 h18
  rw [n12 64 (by omega) (by omega)] at h13 h14 h15 h16 h17 h18
  rw [n12 65 (by omega) (by omega)] at h14 h15 h16 h17 h18
  rw [n66] at h15 h16 h17 h18
  rw [n12 67 (by omega) (by omega)] at h16 h17 h18
  rw [n12 68 (by omega) (by omega)] at h17 h18
  rw [n12 69 (by omega) (by omega)] at h18
  refine ⟨h1, fun k j a b hj => ?_, fun k j a b hj => ?_, fun k a b j hj => ?_⟩
  · have : k = 43 ∨ k = 44 ∨ k = 45 ∨ k = 46 := by omega
    rcases this with rfl | rfl | rfl | rfl
    · exact h2 j hj
    · exact h3 j hj
    · exact h4 j hj
    · exact h5 j hj
  · have : k = 47 ∨ k = 48 ∨ k = 49 ∨ k = 50 ∨ k = 51 := by omega
    rcases this with rfl | rfl | rfl | rfl | rfl
    · exact h6 j hj
    · exact h7 j hj
    · exact h8 j hj
    · exact h9 j hj
    · exact h10 j hj
  · have : k = 62 ∨ k = 63 ∨ k = 64 ∨ k = 65 ∨ k = 66 ∨ k = 67 ∨ k = 68 ∨ k = 69 := by omega
    rcases this with rfl | rfl | rfl | rfl | rfl | rfl | rfl | rfl
    · exact h11 j hj
    · exact h12 j hj
    · exact h13 j hj
    · exact h14 j hj
    · exact h15 j hj
    · exact h16 j hj
    · exact h17 j hj
    · exact h18 j hj
theorem x11_carriesAll {k : Nat} (hk : k < 4) (bk : Bool) (σ : zH) : zwp (d_X11_carriesAll σ (nI k) (b2i bk)) (fun σ' => σ'.2 = σ.2 ∧ (∀ k' i j, ¬ (k' = 11 ∧ i = 0 ∧ (j = 65 ∨ j = 66)) → ¬ (bk = false ∧ k' = 90 ∧ i = 0 ∧ 390 * k ≤ j ∧ j < 390 * k + 375) → ¬ (bk = true ∧ k' ∈ irows ∧ i = 0 ∧ j < aN k') → σ'.1 k' i j = σ.1 k' i j) ∧ imgOK (σ'.1 90 0) (fun a => σ'.1 a 0) irows (390 * k)) := by
  unfold d_X11_carriesAll
  rw [show (390 : Int32) * nI k = nI (390 * k) from by rw [← pk_mul]; rfl]
  refine zwp_let.mpr ?_
  rw [tv_01 (b2i_01 bk)]
  refine zwp_let.mpr ?_
  have hc : ∀ τ, carL irows τ = ((d_X11_carry τ 42 0).bind fun s1 => (d_X11_carry s1 43 0).bind fun s2 => (d_X11_carry s2 44 0).bind fun s3 => (d_X11_carry s3 45 0).bind fun s4 => (d_X11_carry s4 46 0).bind fun s5 => (d_X11_carry s5 47 0).bind fun s6 => (d_X11_carry s6 48 0).bind fun s7 => (d_X11_carry s7 49 0).bind fun s8 => (d_X11_carry s8 50 0).bind fun s9 => (d_X11_carry s9 51 0).bind fun s10 => (d_X11_carry s10 62 0).bind fun s11 => (d_X11_carry s11 63 0).bind fun s12 => (d_X11_carry s12 64 0).bind fun s13 => (d_X11_carry s13 65 0).bind fun s14 => (d_X11_carry s14 66 0).bind fun s15 => (d_X11_carry s15 67 0).bind fun s16 => (d_X11_carry s16 68 0).bind fun s17 => (d_X11_carry s17 69 0).bind fun s18 => some s18) := fun τ => rfl
  rw [← hc]
  have hL := carL_ok bk irows (390 * k) (uI (uI σ 11 0 65 (nI (390 * k))) 11 0 66 (b2i bk)) irows_ok (by decide) (by rw [irows_tot]; omega) (by simp [uI_1]) (by simp [uI_1])
  refine zwp_mono (P := fun σ' => σ'.2 = (uI (uI σ 11 0 65 (nI (390 * k))) 11 0 66 (b2i bk)).2 ∧ (∀ k' i j, ¬ (k' = 11 ∧ i = 0 ∧ j = 65) → ¬ (bk = false ∧ k' = 90 ∧ i = 0 ∧ 390 * k ≤ j ∧ j < 390 * k + itot irows) → ¬ (bk = true ∧ k' ∈ irows ∧ i = 0 ∧ j < aN k') → σ'.1 k' i j = (uI (uI σ 11 0 65 (nI (390 * k))) 11 0 66 (b2i bk)).1 k' i j) ∧ imgOK (σ'.1 90 0) (fun a => σ'.1 a 0) irows (390 * k)) hL (fun σ' h => ⟨h.1, fun k' i j q1 q2 q3 => ?_, h.2.2⟩)
  rw [h.2.1 k' i j (fun q => q1 ⟨q.1, q.2.1, Or.inl q.2.2⟩) (fun q => q2 (by rw [irows_tot] at q; exact q)) q3, uI_1, if_neg (fun q => q1 ⟨q.1, q.2.1, Or.inr q.2.2⟩), uI_1, if_neg (fun q => q1 ⟨q.1, q.2.1, Or.inl q.2.2⟩)]
