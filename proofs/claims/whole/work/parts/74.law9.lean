/-! CALLS: law, what is held and let go on both sides -/
def gw : Nat → List Nat → Prop
  | _, [] => True
  | s, x :: g => (x = 9 ∧ s = 0 ∧ gw 0 g) ∨ (x = 10 ∧ s = 0 ∧ gw 1 g) ∨ (x = 11 ∧ s ≤ 1 ∧ gw 2 g) ∨ (x = 12 ∧ gw 0 g)
def jO (x : Nat) : Prop := x = 9 ∨ x = 10 ∨ x = 11
def tsg (g : List Nat) : List Bool := List.replicate (ctn 10 g + ctn 11 g) true
theorem gw_mono {s : Nat} : ∀ {g : List Nat}, gw s g → gw 0 g
  | [], _ => trivial
  | x :: g, h => by
    rcases h with ⟨a, -, c⟩ | ⟨a, -, c⟩ | ⟨a, -, c⟩ | ⟨a, c⟩
    · exact Or.inl ⟨a, rfl, c⟩
    · exact Or.inr (Or.inl ⟨a, rfl, c⟩)
    · exact Or.inr (Or.inr (Or.inl ⟨a, by omega, c⟩))
    · exact Or.inr (Or.inr (Or.inr ⟨a, c⟩))
/-- NOTs, then ANDs, then ORs, then a bracket or nothing -/
theorem gw_2 {g : List Nat} (h : gw 2 g) : g = [] ∨ ∃ g', g = 12 :: g' ∧ gw 0 g' := by
  match g, h with
  | [], _ => exact Or.inl rfl
  | x :: g, h =>
    rcases h with ⟨a, b, c⟩ | ⟨a, b, c⟩ | ⟨a, b, c⟩ | ⟨a, c⟩
    · exact absurd b (by decide)
    · exact absurd b (by decide)
    · omega
    · exact Or.inr ⟨g, by rw [a], c⟩
theorem gw_1 {g : List Nat} (h : gw 1 g) : ∃ o rest, g = List.replicate o 11 ++ rest ∧ o ≤ 1 ∧ (rest = [] ∨ ∃ g', rest = 12 :: g' ∧ gw 0 g') := by
  match g, h with
  | [], _ => exact ⟨0, [], rfl, by omega, Or.inl rfl⟩
  | x :: g, h =>
    rcases h with ⟨a, b, c⟩ | ⟨a, b, c⟩ | ⟨a, b, c⟩ | ⟨a, c⟩
    · exact absurd b (by decide)
    · exact absurd b (by decide)
    · exact ⟨1, g, by rw [a]; rfl, by omega, gw_2 c⟩
    · exact ⟨0, x :: g, rfl, by omega, Or.inr ⟨g, by rw [a], c⟩⟩
theorem gw_0 : ∀ {g : List Nat}, gw 0 g → ∃ k a o rest, g = List.replicate k 9 ++ (List.replicate a 10 ++ (List.replicate o 11 ++ rest)) ∧ o ≤ 1 ∧ (rest = [] ∨ ∃ g', rest = 12 :: g' ∧ gw 0 g')
  | [], _ => ⟨0, 0, 0, [], rfl, by omega, Or.inl rfl⟩
  | x :: g, h => by
    rcases h with ⟨a, b, c⟩ | ⟨a, b, c⟩ | ⟨a, b, c⟩ | ⟨a, c⟩
    · obtain ⟨k, l, o, rest, e, h1, h2⟩ := gw_0 c
      exact ⟨k + 1, l, o, rest, by rw [a, e]; rfl, h1, h2⟩
    · obtain ⟨o, rest, e, h1, h2⟩ := gw_1 c
      exact ⟨0, 1, o, rest, by rw [a, e]; rfl, h1, h2⟩
    · exact ⟨0, 0, 1, g, by rw [a]; rfl, by omega, gw_2 c⟩
    · exact ⟨0, 0, 0, x :: g, rfl, by omega, Or.inr ⟨g, by rw [a], c⟩⟩
theorem rest_gw {s : Nat} {rest : List Nat} (h : rest = [] ∨ ∃ g', rest = 12 :: g' ∧ gw 0 g') : gw s rest := by
  rcases h with rfl | ⟨g', rfl, h⟩
  · exact trivial
  · exact Or.inr (Or.inr (Or.inr ⟨rfl, h⟩))
theorem tsg_10 (g : List Nat) : tsg (10 :: g) = true :: tsg g := by
  unfold tsg
  rw [ctn, ctn, if_pos rfl, if_neg (by decide), show 1 + ctn 10 g + (0 + ctn 11 g) = (ctn 10 g + ctn 11 g) + 1 by omega]
  rfl
theorem tsg_11 (g : List Nat) : tsg (11 :: g) = true :: tsg g := by
  unfold tsg
  rw [ctn, ctn, if_neg (by decide), if_pos rfl, show 0 + ctn 10 g + (1 + ctn 11 g) = (ctn 10 g + ctn 11 g) + 1 by omega]
  rfl
theorem tsg_o {x : Nat} (h1 : x ≠ 10) (h2 : x ≠ 11) (g : List Nat) : tsg (x :: g) = tsg g := by
  unfold tsg
  rw [ctn, ctn, if_neg h1, if_neg h2, Nat.zero_add, Nat.zero_add]
section
variable {b : Nat → Int32} {t : Nat} {c1 m1 : zH} {L B c0 N0 : Nat} {σ σc σm : zH} {pc pm q m : Nat} {ex sg : Int32} {cnt : Nat} {A h0 h g : List Nat} {cc cm : List qop} {ts : List Bool} {f : Int32}
theorem IV.pop {x : Nat} (hx : jO x) (I : IV B c0 N0 pc cnt (x :: g) cm (true :: tsg (x :: g))) : IV B c0 N0 pc cnt g (cm ++ [(x, 0)]) (true :: tsg g) := by
  obtain ⟨a1, a2, a3, a4, a5, a6⟩ := I
  have e0 : ¬ x ≤ 1 := by unfold jO at hx; omega
  have e1 : qps (cm ++ [(x, 0)]) = qps cm := by
    rw [qps_app]
    show qps cm + ((if x ≤ 1 then 1 else 0) + 0) = _
    rw [if_neg e0]; omega
  have e2 : n9 (cm ++ [(x, 0)]) + ctn 9 g = n9 cm + ctn 9 (x :: g) := by
    rw [n9_app]
    show n9 cm + ((if x = 9 then 1 else 0) + 0) + ctn 9 g = n9 cm + ((if x = 9 then 1 else 0) + ctn 9 g)
    omega
  refine ⟨?_, by omega, a3, by omega, a5, a6⟩
  rw [qty_app a1]
  rcases hx with rfl | rfl | rfl
  · rw [tsg_o (by decide) (by decide)]; rfl
  · rw [tsg_10]; rfl
  · rw [tsg_11]; rfl
theorem IV.pops : ∀ {G : List Nat} {cm : List qop}, (∀ x, x ∈ G → jO x) → IV B c0 N0 pc cnt (G ++ g) cm (true :: tsg (G ++ g)) → IV B c0 N0 pc cnt g (cm ++ ops G) (true :: tsg g)
  | [], cm, _, I => by simpa [ops] using I
  | x :: G, cm, hG, I => by
    have := IV.pops (G := G) (fun y hy => hG y (by simp [hy])) (IV.pop (hG x (by simp)) I)
    rw [List.append_assoc] at this
    exact this
/-- the reference's answers -/
theorem MM.pop {k : Nat} (hk : jO k) (M : MM b t m1 L B σ pm cnt (k :: g) cm) (hb : B + cm.length < 300) (hg : g.length < 402) (f : Nat) : ∃ σ', k_X11_answers_0 (f + 1) σ (nI k) = k_X11_answers_0 f σ' (nI k) ∧ MM b t m1 L B σ' pm cnt g (cm ++ [(k, 0)]) := by
  have htop : d_X11_top σ = some (σ, nI k) := by
    unfold d_X11_top
    rw [M.2.2.1.2.2.2.1, List.length_cons, if_neg (nI_ne0 (by omega) (by omega)), nI_pred, ix_nI hg (by omega), show σ.1 77 0 g.length = nI k from M.2.2.1.2.2.2.2.1]
  obtain ⟨σ2, e2, M2⟩ := M.entry hb (x := nI k) (a := 0) k 0 rfl (fun _ => rfl)
  obtain ⟨d1, d2, d3, d4, d5⟩ := M2.2.2.1
  rw [k_X11_answers_0, htop]
  simp only [Option.bind_some]
  rw [if_pos trivial, if_pos M.2.1.1, e2]
  simp only [Option.bind_some, zlet]
  rw [d4, List.length_cons, nI_pred]
  unfold j_X11_answers_47
  have u36 : (uI σ2 11 0 38 (nI g.length)).1 11 0 36 = nI (ctn 9 (k :: g) + ctn 12 (k :: g)) := by rw [uI_1, if_neg (by omega)]; exact d2
  simp only [u36, zlet]
  have fin : ∀ v : Int32, v = nI (ctn 9 g + ctn 12 g) → MM b t m1 L B (uI (uI σ2 11 0 38 (nI g.length)) 11 0 36 v) pm cnt g (cm ++ [(k, 0)]) := fun v hv => by
    refine M2.m11 (fun k j q1 q2 => by rw [uI_1, if_neg (by omega), uI_1, if_neg (by omega)]) (by simp [uI_1, M2.2.1.2.1]) M2.2.1.2.2 (by simp [uI_1, M2.2.1.1]) (by simp [uI_1]) (by simp [uI_1, hv]) (by simp [uI_1, d3]) (by simp [uI_1]) (hAt_cg d5.2 (fun j _ => by rw [uI_1, if_neg (by omega), uI_1, if_neg (by omega)]))
  by_cases h9 : k = 9
  · rw [if_pos (show nI k = (9 : Int32) by rw [h9]; rfl)]
    refine ⟨_, rfl, fin _ ?_⟩
    rw [ctn, ctn, if_pos h9, if_neg (by omega), show 1 + ctn 9 g + (0 + ctn 12 g) = ctn 9 g + ctn 12 g + 1 by omega, nI_pred]
  · rw [if_neg (show ¬ nI k = (9 : Int32) from fun w => h9 ((nI_eq (a := k) (b := 9) (by unfold jO at hk; omega) (by omega)).mp w))]
    refine ⟨_, rfl, fin _ ?_⟩
    rw [ctn, ctn, if_neg h9, if_neg (by unfold jO at hk; omega), Nat.zero_add, Nat.zero_add, Int32.sub_zero]
theorem MM.top (M : MM b t m1 L B σ pm cnt g cm) (hg : g.length ≤ 402) : (g = [] → d_X11_top σ = some (σ, -1)) ∧ ∀ x r, g = x :: r → d_X11_top σ = some (σ, nI x) := by
  refine ⟨fun e => ?_, fun x r e => ?_⟩
  · subst e
    unfold d_X11_top
    rw [M.2.2.1.2.2.2.1, if_pos (show nI ([] : List Nat).length = 0 from nI_0)]
  · subst e
    rw [List.length_cons] at hg
    unfold d_X11_top
    rw [M.2.2.1.2.2.2.1, List.length_cons, if_neg (nI_ne0 (by omega) (by omega)), nI_pred, ix_nI (by omega) (by omega), show σ.1 77 0 r.length = nI x from M.2.2.1.2.2.2.2.1]
theorem MM.answers {k : Nat} (hk : jO k) (hg : ∀ x r, g = x :: r → x ≠ k ∧ x < 100) (hl : g.length ≤ 400) : ∀ (n : Nat) (σ : zH) (cm : List qop) (f : Nat), MM b t m1 L B σ pm cnt (List.replicate n k ++ g) cm → B + cm.length + n < 300 → n + g.length ≤ 400 → n < f → ∃ σ', k_X11_answers_0 f σ (nI k) = some σ' ∧ MM b t m1 L B σ' pm cnt g (cm ++ ops (List.replicate n k))
  | 0, σ, cm, f, M, hb, hn, hf => by
    obtain ⟨f, rfl⟩ : ∃ g, f = g + 1 := ⟨f - 1, by omega⟩
    refine ⟨σ, ?_, by simpa [ops] using M⟩
    have M : MM b t m1 L B σ pm cnt g cm := M
    obtain ⟨t1, t2⟩ := M.top (by omega)
    rw [k_X11_answers_0]
    match g, t1, t2, hg with
    | [], t1, _, _ =>
      rw [t1 rfl]
      simp only [Option.bind_some]
      rw [if_neg (fun e => nI_nm1 (show k < 2 ^ 31 by unfold jO at hk; omega) e.symm)]
    | x :: r, _, t2, hg =>
      obtain ⟨g1, g2⟩ := hg x r rfl
      rw [t2 x r rfl]
      simp only [Option.bind_some]
      rw [if_neg (fun e => g1 ((nI_eq (by omega) (by unfold jO at hk; omega)).mp e))]
  | n + 1, σ, cm, f, M, hb, hn, hf => by
    obtain ⟨f, rfl⟩ : ∃ g, f = g + 1 := ⟨f - 1, by omega⟩
    have M : MM b t m1 L B σ pm cnt (k :: (List.replicate n k ++ g)) cm := M
    obtain ⟨σ2, e2, M2⟩ := M.pop hk (by omega) (by rw [List.length_append, List.length_replicate]; omega) f
    obtain ⟨σ3, e3, M3⟩ := MM.answers hk hg hl n σ2 (cm ++ [(k, 0)]) f M2 (by simp; omega) (by omega) (by omega)
    refine ⟨σ3, by rw [e2]; exact e3, ?_⟩
    rw [List.append_assoc] at M3
    exact M3
/-- the reference holds a joint -/
theorem x11_op40 {σ : zH} {n : Nat} (hn : n < 402) (e : σ.1 11 0 38 = nI n) (x : Int32) : j_X11_opens_40 σ x = some (uI (uI σ 77 0 n x) 11 0 38 (nI (n + 1))) := by
  unfold j_X11_opens_40
  rw [e, ix_nI hn (by omega)]
  simp only [zlet]
  rw [show (uI σ 77 0 n x).1 11 0 38 = nI n by rw [uI_1, if_neg (by omega)]; exact e, nI_1]
theorem MM.op40 (M : MM b t m1 L B σ pm cnt g cm) (hg : g.length < 402) {k : Nat} {σ' : zH} (e : ∀ kk j, ¬ (kk = 11 ∧ j = 36) → σ'.1 kk 0 j = σ.1 kk 0 j) (h36 : σ'.1 11 0 36 = nI (ctn 9 (k :: g) + ctn 12 (k :: g))) : ∃ σ2, j_X11_opens_40 σ' (nI k) = some σ2 ∧ MM b t m1 L B σ2 pm cnt (k :: g) cm := by
  obtain ⟨d1, d2, d3, d4, d5⟩ := M.2.2.1
  refine ⟨_, x11_op40 hg (by rw [e _ _ (by omega)]; exact d4) _, ?_⟩
  refine M.m11 (fun kk j q1 q2 => by rw [uI_1, if_neg (by omega), uI_1, if_neg (by omega), e _ _ (by omega)]) (by simp [uI_1, e, M.2.1.2.1]) M.2.1.2.2 (by simp [uI_1, e, M.2.1.1]) (by simp [uI_1, e]) (by simp [uI_1, h36]) (by simp [uI_1, e, d3]) (by simp [uI_1]) ⟨by simp [uI_1], hAt_cg d5 (fun j hj => ?_)⟩
  rw [uI_1, if_neg (by omega), uI_1, if_neg (by omega), e _ _ (by omega)]
theorem MM.hold (M : MM b t m1 L B σ pm cnt g cm) (hg : g.length < 402) {k : Nat} (hk : k = 10 ∨ k = 11) : ∃ σ2, d_X11_opens σ (nI k) = some σ2 ∧ MM b t m1 L B σ2 pm cnt (k :: g) cm := by
  unfold d_X11_opens
  rw [if_neg (show ¬ nI k = (9 : Int32) by rcases hk with rfl | rfl <;> decide), if_neg (show ¬ nI k = (12 : Int32) by rcases hk with rfl | rfl <;> decide)]
  refine M.op40 hg (fun _ _ _ => rfl) ?_
  rw [ctn, ctn, if_neg (by omega), if_neg (by omega), Nat.zero_add, Nat.zero_add]
  exact M.2.2.1.2.1
theorem MM.nest (M : MM b t m1 L B σ pm cnt g cm) (hg : g.length < 402) {k : Nat} (hk : k = 9 ∨ k = 12) (hd : ctn 9 g + ctn 12 g < 10) : ∃ σ2, d_X11_opens σ (nI k) = some σ2 ∧ MM b t m1 L B σ2 pm cnt (k :: g) cm := by
  have e : d_X11_opens σ (nI k) = j_X11_opens_12 σ (nI k) := by
    unfold d_X11_opens
    rcases hk with rfl | rfl
    · rw [if_pos (show nI 9 = (9 : Int32) from rfl)]
    · rw [if_neg (by decide), if_pos (show nI 12 = (12 : Int32) from rfl)]
  rw [e]
  unfold j_X11_opens_12 j_X11_opens_30
  rw [M.2.2.1.2.1, if_neg (show ¬ nI (ctn 9 g + ctn 12 g) = (10 : Int32) from fun w => by have := (nI_eq (a := ctn 9 g + ctn 12 g) (b := 10) (by omega) (by omega)).mp w; omega)]
  simp only [zlet]
  rw [nI_1]
  refine M.op40 hg (fun kk j h => by rw [uI_1, if_neg (by omega)]) ?_
  rw [uI_1, if_pos ⟨rfl, rfl, rfl⟩, ctn, ctn]
  rcases hk with rfl | rfl
  · rw [if_pos rfl, if_neg (by decide)]; congr 1; omega
  · rw [if_neg (by decide), if_pos rfl]; congr 1; omega
theorem MM.deep (M : MM b t m1 L B σ pm cnt g cm) (hpm : pm ≤ m) (hg : g.length < 402) {k : Nat} (hk : k = 9 ∨ k = 12) (hd : ctn 9 g + ctn 12 g = 10) : ∃ σ2, d_X11_opens σ (nI k) = some σ2 ∧ MF b t m1 L B m σ2 (flt 0 2 pm) ∧ σ2.1 11 0 31 = nI pm := by
  have e : d_X11_opens σ (nI k) = j_X11_opens_12 σ (nI k) := by
    unfold d_X11_opens
    rcases hk with rfl | rfl
    · rw [if_pos (show nI 9 = (9 : Int32) from rfl)]
    · rw [if_neg (by decide), if_pos (show nI 12 = (12 : Int32) from rfl)]
  rw [e]
  unfold j_X11_opens_12 j_X11_opens_30
  rw [M.2.2.1.2.1, hd, if_pos (show nI 10 = (10 : Int32) from rfl), M.2.1.2.1]
  have t400 := M.1.1.1
  have hle := M.2.1.2.2
  obtain ⟨σ2, e2, F2, e3⟩ := M.fails hpm 2 (by decide) (by decide) (q := pm) (by omega)
  have e38 : σ2.1 11 0 38 = nI g.length := by
    unfold d_X11_fails j_X11_fails_23 at e2
    rw [M.2.1.1, if_pos rfl] at e2
    have := Option.some.inj e2
    rw [← this, uI_1, if_neg (by omega)]
    exact M.2.2.1.2.2.2.1
  rw [e2]
  simp only [Option.bind_some, zlet]
  rw [x11_op40 hg (by rw [uI_1, if_neg (by omega)]; exact e38)]
  obtain ⟨x1, x2, x3, p, x4, x5⟩ := F2
  exact ⟨_, rfl, ⟨x1.m11 (fun k j q1 q2 => by rw [uI_1, if_neg (by omega), uI_1, if_neg (by omega), uI_1, if_neg (by omega)]), by rw [uI_1, if_neg (by omega), uI_1, if_neg (by omega), uI_1, if_neg (by omega)]; exact x2, x3, p, x4, by rw [uI_1, if_neg (by omega), uI_1, if_neg (by omega), uI_1, if_neg (by omega)]; exact x5⟩, by rw [uI_1, if_neg (by omega), uI_1, if_neg (by omega), uI_1, if_neg (by omega)]; exact e3⟩
/-- the class: a bracket or not -/
theorem CC.nest (H : CC b t c1 L B σ pc ex sg cnt g cc) (k : tkn b t q σ) (hg : g.length < 400) {x : Nat} (hx : x = 9 ∨ x = 12) : (ctn 9 g + ctn 12 g < 10 → ∃ σ', j_X5_takeFact_36 σ (if x = 9 then 0 else 1) = some σ' ∧ CC b t c1 L B σ' pc ex sg cnt (x :: g) cc) ∧ (ctn 9 g + ctn 12 g = 10 → ∃ σ', j_X5_takeFact_36 σ (if x = 9 then 0 else 1) = some σ' ∧ FC c1 L σ' (flt 0 2 q)) := by
  have H0 := H
  obtain ⟨-, -, ⟨a1, a2, a3, a4, a5⟩, ⟨d1, d2, d3, d4⟩, -⟩ := H
  unfold j_X5_takeFact_36
  rw [d2, d3, nI_add]
  refine ⟨fun h => ?_, fun h => ?_⟩
  · rw [if_pos (show nI (ctn 12 g + ctn 9 g) < (10 : Int32) from nI_lt (b := 10) (by omega) (by omega))]
    rcases hx with rfl | rfl
    · rw [if_pos rfl, if_pos rfl]
      simp only [zlet]
      rw [nI_1, x5_hold hg (by rw [uI_1, if_neg (by omega)]; exact d1)]
      simp only [Option.bind_some]
      refine ⟨_, rfl, H0.m5 rfl (fun k i j q1 q2 => by rw [uI_1, if_neg (by omega), uI_1, if_neg (by omega), uI_1, if_neg (by omega)]) (by simp [uI_1]) (by simp [uI_1, a3]) (by simp [uI_1, a4]) (by simp [uI_1, a5]) (by simp [uI_1]) (by simp [uI_1, d2, ctn]) ?_ ⟨by simp [uI_1]; rfl, hAt_cg d4 (fun j hj => by rw [uI_1, if_neg (by omega), uI_1, if_neg (by omega), uI_1, if_neg (by omega)])⟩⟩
      rw [uI_1, if_neg (by omega), uI_1, if_neg (by omega), uI_1, if_pos ⟨rfl, rfl, rfl⟩, ctn, if_pos rfl, Nat.add_comm]
    · rw [if_neg (show ¬ (12 : Nat) = 9 by decide), if_neg i10]
      simp only [zlet]
      rw [nI_1, x5_hold hg (by rw [uI_1, if_neg (by omega)]; exact d1)]
      simp only [Option.bind_some]
      refine ⟨_, rfl, H0.m5 rfl (fun k i j q1 q2 => by rw [uI_1, if_neg (by omega), uI_1, if_neg (by omega), uI_1, if_neg (by omega)]) (by simp [uI_1]) (by simp [uI_1, a3]) (by simp [uI_1, a4]) (by simp [uI_1, a5]) (by simp [uI_1]) ?_ (by simp [uI_1, d3, ctn]) ⟨by simp [uI_1]; rfl, hAt_cg d4 (fun j hj => by rw [uI_1, if_neg (by omega), uI_1, if_neg (by omega), uI_1, if_neg (by omega)])⟩⟩
      rw [uI_1, if_neg (by omega), uI_1, if_neg (by omega), uI_1, if_pos ⟨rfl, rfl, rfl⟩, ctn, if_pos rfl, Nat.add_comm]
  · rw [if_neg (show ¬ nI (ctn 12 g + ctn 9 g) < (10 : Int32) from nI_nlt (b := 10) (by omega) (by omega))]
    obtain ⟨σ3, g1, g2⟩ := H0.fail k 2
    rw [g1]
    exact ⟨_, rfl, g2⟩
end
