/-! CALLS: law, the reference's reader -/
/-- what reading a clause of law L changes in the reference -/
def Fm (L B k j : Nat) : Prop := k = 77 ∨ (k = 11 ∧ (j = 31 ∨ j = 32 ∨ j = 35 ∨ j = 36 ∨ j = 37 ∨ j = 38)) ∨ ((k = 71 ∨ k = 72) ∧ 300 * L + B ≤ j ∧ j < 300 * L + 300)
def MB (b : Nat → Int32) (t : Nat) (σ1 : zH) (L B : Nat) (σ : zH) : Prop := txm b t σ ∧ (∀ k j, ¬ Fm L B k j → σ.1 k 0 j = σ1.1 k 0 j) ∧ σ.1 11 0 33 = nI L ∧ L < 6 ∧ σ.1 11 0 39 = 10
def MM (b : Nat → Int32) (t : Nat) (σ1 : zH) (L B : Nat) (σ : zH) (pm : Nat) (cnt : Nat) (g : List Nat) (cm : List qop) : Prop :=
  MB b t σ1 L B σ ∧ (σ.1 11 0 32 = 0 ∧ σ.1 11 0 31 = nI pm ∧ pm ≤ t) ∧ (σ.1 11 0 35 = nI (B + cm.length) ∧ σ.1 11 0 36 = nI (ctn 9 g + ctn 12 g) ∧ σ.1 11 0 37 = nI cnt ∧ σ.1 11 0 38 = nI g.length ∧ hAt nI (σ.1 77 0) g) ∧ cdAt (fun j => σ.1 71 0 (300 * L + j)) (fun j => σ.1 72 0 (300 * L + j)) nI B cm
/-- it has met a fault -/
def MF (b : Nat → Int32) (t : Nat) (σ1 : zH) (L B : Nat) (m : Nat) (σ : zH) (f : Int32) : Prop := MB b t σ1 L B σ ∧ σ.1 11 0 32 = f ∧ ¬ f = 0 ∧ ∃ p, p ≤ m ∧ σ.1 11 0 31 = nI p
section
variable {b : Nat → Int32} {t : Nat} {σ1 : zH} {L B : Nat} {σ : zH} {pm q m : Nat} {cnt : Nat} {g : List Nat} {cm : List qop} {f : Int32}
/-- of row 11 alone something has changed -/
theorem MB.m11 (H : MB b t σ1 L B σ) {σ' : zH} (e : ∀ k j, ¬ (k = 11 ∧ (j = 31 ∨ j = 32 ∨ j = 35 ∨ j = 36 ∨ j = 37 ∨ j = 38)) → ¬ k = 77 → σ'.1 k 0 j = σ.1 k 0 j) : MB b t σ1 L B σ' := by
  obtain ⟨a1, a2, a3, a4, a5⟩ := H
  refine ⟨a1.mv (e 11 30 (by omega) (by omega)) (funext fun j => e 70 j (by omega) (by omega)), fun k j hk => ?_, by rw [e 11 33 (by omega) (by omega)]; exact a3, a4, by rw [e 11 39 (by omega) (by omega)]; exact a5⟩
  rw [e k j (fun q => hk (Or.inr (Or.inl q))) (fun q => hk (Or.inl q))]
  exact a2 k j hk
theorem MM.m11 (H : MM b t σ1 L B σ pm cnt g cm) {σ' : zH} {pm' cnt' : Nat} {g' : List Nat} (e : ∀ k j, ¬ (k = 11 ∧ (j = 31 ∨ j = 32 ∨ j = 35 ∨ j = 36 ∨ j = 37 ∨ j = 38)) → ¬ k = 77 → σ'.1 k 0 j = σ.1 k 0 j) (h1 : σ'.1 11 0 31 = nI pm') (hp : pm' ≤ t) (h2 : σ'.1 11 0 32 = 0) (h5 : σ'.1 11 0 35 = σ.1 11 0 35) (h6 : σ'.1 11 0 36 = nI (ctn 9 g' + ctn 12 g')) (h7 : σ'.1 11 0 37 = nI cnt') (h8 : σ'.1 11 0 38 = nI g'.length) (h9 : hAt nI (σ'.1 77 0) g') : MM b t σ1 L B σ' pm' cnt' g' cm := by
  obtain ⟨a, ⟨b1, b2, b3⟩, ⟨c1, c2, c3, c4, c5⟩, d⟩ := H
  exact ⟨a.m11 e, ⟨h2, h1, hp⟩, ⟨by rw [h5]; exact c1, h6, h7, h8, h9⟩, cdAt_cg d (fun j _ _ => ⟨e 71 _ (by omega) (by omega), e 72 _ (by omega) (by omega)⟩)⟩
theorem MM.z31 {σ' : zH} (H : MM b t σ1 L B σ pm cnt g cm) {p : Nat} (hp : p ≤ t) (z : z31 σ σ' p) : MM b t σ1 L B σ' p cnt g cm := by
  have H0 := H
  obtain ⟨a, ⟨b1, b2, b3⟩, ⟨c1, c2, c3, c4, c5⟩, d⟩ := H
  refine H0.m11 (fun k j q1 q2 => z.2.1 k 0 j (by omega)) z.2.2 hp (by rw [z.2.1 _ _ _ (by omega)]; exact b1) (z.2.1 _ _ _ (by omega)) (by rw [z.2.1 _ _ _ (by omega)]; exact c2) (by rw [z.2.1 _ _ _ (by omega)]; exact c3) (by rw [z.2.1 _ _ _ (by omega)]; exact c4) (hAt_cg c5 (fun j _ => z.2.1 _ _ _ (by omega)))
theorem MM.u31 (H : MM b t σ1 L B σ pm cnt g cm) {p : Nat} (hp : p ≤ t) : MM b t σ1 L B (uI σ 11 0 31 (nI p)) p cnt g cm := H.z31 hp (z31.rf H.2.1.2.1).up
theorem MM.blanks (H : MM b t σ1 L B σ pm cnt g cm) : ∃ σ', d_X11_blanks σ = some σ' ∧ MM b t σ1 L B σ' (en isB b t pm) cnt g cm := by
  obtain ⟨σ', e, z⟩ := x11_blanks H.1.1 H.2.1.2.1 H.2.1.2.2
  exact ⟨σ', e, H.z31 ((en_spec isB_m1 b t pm).2.1 H.2.1.2.2) z⟩
theorem MM.sign (H : MM b t σ1 L B σ pm cnt g cm) : d_X11_sign σ = some (σ, pk b t pm) := x11_sign H.1.1 H.2.1.2.1 (by have := H.1.1.1; have := H.2.1.2.2; omega)
theorem x11_blanksF {p : Nat} (h : txm b t σ) (hp : σ.1 11 0 31 = nI p) (hpt : p ≤ 402) : ∃ σ' p', d_X11_blanks σ = some σ' ∧ z31 σ σ' p' ∧ (p ≤ t → p' ≤ t) ∧ (t < p → p' = p) := by
  by_cases q : p ≤ t
  · obtain ⟨σ', e, z⟩ := x11_blanks h hp q
    exact ⟨σ', _, e, z, fun _ => (en_spec isB_m1 b t p).2.1 q, fun c => by omega⟩
  · refine ⟨σ, p, ?_, z31.rf hp, fun c => absurd c q, fun _ => rfl⟩
    unfold d_X11_blanks
    rw [show zN = 4095 + 1 from zN_eq, k_X11_blanks_0, x11_sign h hp (by omega), pkb_end (by omega)]
    rfl
theorem MF.blanks (H : MF b t σ1 L B m σ f) (hm : m ≤ 402) (htm : t ≤ m) : ∃ σ', d_X11_blanks σ = some σ' ∧ MF b t σ1 L B m σ' f := by
  obtain ⟨a, b1, b2, p, b3, b4⟩ := H
  obtain ⟨σ', p', e, z, z1, z2⟩ := x11_blanksF a.1 b4 (by omega)
  refine ⟨σ', e, a.m11 (fun k j q1 q2 => z.2.1 k 0 j (by omega)), by rw [z.2.1 _ _ _ (by omega)]; exact b1, b2, p', ?_, z.2.2⟩
  by_cases q : p ≤ t
  · have := z1 q; omega
  · have := z2 (by omega); omega
theorem MF.sign (H : MF b t σ1 L B m σ f) (hm : m ≤ 402) : ∃ x, d_X11_sign σ = some (σ, x) ∧ ∀ p, σ.1 11 0 31 = nI p → p ≤ 402 → x = pk b t p := by
  obtain ⟨a, b1, b2, p, b3, b4⟩ := H
  refine ⟨_, x11_sign a.1 b4 (by omega), fun p' hp' h4 => ?_⟩
  rw [(nI_eq (by omega) (by omega)).mp (b4.symm.trans hp')]
/-- an entry -/
theorem MM.entry (H : MM b t σ1 L B σ pm cnt g cm) (hb : B + cm.length < 300) {a : Int32} (op : Nat) (a' : Int32) {x : Int32} (hx : x = nI op) (ha : op ≤ 1 → a = a') : ∃ σ', d_X11_entry σ x a = some σ' ∧ MM b t σ1 L B σ' pm cnt g (cm ++ [(op, a')]) := by
  obtain ⟨⟨a1, a2, a3, a4, a5⟩, ⟨b1, b2, b3⟩, ⟨c1, c2, c3, c4, c5⟩, d⟩ := H
  have e300 : (300 : Int32) * nI L + nI (B + cm.length) = nI (300 * L + (B + cm.length)) := by rw [show (300 : Int32) = nI 300 from rfl, pk_mul, nI_add]
  unfold d_X11_entry
  rw [if_pos b1, a3, c1, e300, ix_nI (by omega) (by omega)]
  simp only [zlet]
  generalize hn : 300 * L + (B + cm.length) = n
  have u1 : ∀ j, (uI σ 71 0 n x).1 11 0 j = σ.1 11 0 j := fun j => by rw [uI_1, if_neg (by omega)]
  rw [u1, u1, a3, c1, e300, hn, ix_nI (by omega) (by omega)]
  have u2 : (uI (uI σ 71 0 n x) 72 0 n a).1 11 0 35 = nI (B + cm.length) := by rw [uI_1, if_neg (by omega), u1]; exact c1
  rw [u2, nI_1]
  generalize hσ : uI (uI (uI σ 71 0 n x) 72 0 n a) 11 0 35 (nI (B + cm.length + 1)) = σ'
  have e : ∀ k j, ¬ (k = 11 ∧ j = 35) → ¬ ((k = 71 ∨ k = 72) ∧ j = n) → σ'.1 k 0 j = σ.1 k 0 j := fun k j q1 q2 => by
    rw [← hσ, uI_1, if_neg (by omega), uI_1, if_neg (by omega), uI_1, if_neg (by omega)]
  refine ⟨σ', rfl, ⟨a1.mv (e 11 30 (by omega) (by omega)) (funext fun j => e 70 j (by omega) (by omega)), fun k j hk => ?_, by rw [e _ _ (by omega) (by omega)]; exact a3, a4, by rw [e _ _ (by omega) (by omega)]; exact a5⟩, ⟨by rw [e _ _ (by omega) (by omega)]; exact b1, by rw [e _ _ (by omega) (by omega)]; exact b2, b3⟩, ⟨?_, by rw [e _ _ (by omega) (by omega)]; exact c2, by rw [e _ _ (by omega) (by omega)]; exact c3, by rw [e _ _ (by omega) (by omega)]; exact c4, hAt_cg c5 (fun j _ => e _ _ (by omega) (by omega))⟩, cdAt_app (cdAt_cg d (fun j q1 q2 => ⟨e 71 _ (by omega) (by omega), e 72 _ (by omega) (by omega)⟩)) ⟨?_, fun q => ?_, trivial⟩⟩
  · rw [e k j (fun q => hk (Or.inr (Or.inl (by omega)))) (fun q => hk (Or.inr (Or.inr ⟨q.1, by omega, by omega⟩)))]
    exact a2 k j hk
  · rw [← hσ, uI_1, if_pos ⟨rfl, rfl, rfl⟩, List.length_append]; rfl
  · show σ'.1 71 0 (300 * L + (B + cm.length)) = _
    rw [hn, ← hσ, uI_1, if_neg (by omega), uI_1, if_neg (by omega), uI_1, if_pos ⟨rfl, rfl, rfl⟩]; exact hx
  · show σ'.1 72 0 (300 * L + (B + cm.length)) = _
    rw [hn, ← hσ, uI_1, if_neg (by omega), uI_1, if_pos ⟨rfl, rfl, rfl⟩]; exact ha q
theorem MF.entry (H : MF b t σ1 L B m σ f) (x a : Int32) : d_X11_entry σ x a = some σ := by
  unfold d_X11_entry
  rw [H.2.1, if_neg H.2.2.1]
/-- a fault is met, or stays -/
theorem MM.fails (H : MM b t σ1 L B σ pm cnt g cm) (hpm : pm ≤ m) (c : Int32) (h1 : 0 ≤ c.toInt) (h2 : c.toInt ≤ 7) {q : Nat} (hq : q ≤ 401) : ∃ σ', d_X11_fails σ c (nI q) = some σ' ∧ MF b t σ1 L B m σ' (flt 0 c q) ∧ σ'.1 11 0 31 = nI pm := by
  obtain ⟨σ', e, z, e1, e2⟩ := x11_fails σ c q
  refine ⟨σ', e, ⟨H.1.m11 (fun k j q1 q2 => z.2 k 0 j (by omega)), by rw [e1, H.2.1.1], flt_n0 hq h1 h2, pm, hpm, by rw [e2]; exact H.2.1.2.1⟩, by rw [e2]; exact H.2.1.2.1⟩
theorem MF.fails (H : MF b t σ1 L B m σ f) (c x : Int32) : ∃ σ', d_X11_fails σ c x = some σ' ∧ MF b t σ1 L B m σ' f ∧ σ'.1 11 0 31 = σ.1 11 0 31 := by
  obtain ⟨a, b1, b2, p, b3, b4⟩ := H
  unfold d_X11_fails j_X11_fails_23
  rw [b1, if_neg b2]
  exact ⟨_, rfl, ⟨a.m11 (fun k j q1 q2 => by rw [uI_1, if_neg (by omega)]), by rw [uI_1, if_pos ⟨rfl, rfl, rfl⟩], b2, p, b3, by rw [uI_1, if_neg (by omega)]; exact b4⟩, by rw [uI_1, if_neg (by omega)]⟩
/-- counted -/
theorem MM.counted (H : MM b t σ1 L B σ pm cnt g cm) (hpm : pm ≤ m) (hc : cnt ≤ 60) (hq : q ≤ 401) : (cnt < 60 → ∃ σ', d_X11_isCounted σ (nI q) = some σ' ∧ MM b t σ1 L B σ' pm (cnt + 1) g cm) ∧ (cnt = 60 → ∃ σ', d_X11_isCounted σ (nI q) = some σ' ∧ MF b t σ1 L B m σ' (flt 0 3 q) ∧ σ'.1 11 0 31 = nI pm) := by
  have H0 := H
  obtain ⟨a, ⟨b1, b2, b3⟩, ⟨c1, c2, c3, c4, c5⟩, d⟩ := H
  unfold d_X11_isCounted j_X11_isCounted_15
  refine ⟨fun h => ?_, fun h => ?_⟩
  · rw [c3, if_neg (show ¬ nI cnt = (60 : Int32) from fun w => by have := (nI_eq (a := cnt) (b := 60) (by omega) (by omega)).mp w; omega)]
    simp only [zlet]
    rw [nI_1]
    refine ⟨_, rfl, H0.m11 (fun k j q1 q2 => by rw [uI_1, if_neg (by omega)]) (by simp [uI_1, b2]) b3 (by simp [uI_1, b1]) (by simp [uI_1]) (by simp [uI_1, c2]) (by simp [uI_1]) (by simp [uI_1, c4]) (hAt_cg c5 (fun j _ => by rw [uI_1, if_neg (by omega)]))⟩
  · obtain ⟨σ2, e2, F, e31⟩ := H0.fails hpm 3 (by decide) (by decide) hq
    rw [c3, h, if_pos (show nI 60 = (60 : Int32) from rfl), e2]
    simp only [zlet, Option.bind_some]
    obtain ⟨x1, x2, x3, p, x4, x5⟩ := F
    exact ⟨_, rfl, ⟨x1.m11 (fun k j q1 q2 => by rw [uI_1, if_neg (by omega)]), by rw [uI_1, if_neg (by omega)]; exact x2, x3, p, x4, by rw [uI_1, if_neg (by omega)]; exact x5⟩, by rw [uI_1, if_neg (by omega)]; exact e31⟩
theorem MF.counted (H : MF b t σ1 L B m σ f) (x : Int32) : ∃ σ', d_X11_isCounted σ x = some σ' ∧ MF b t σ1 L B m σ' f ∧ σ'.1 11 0 31 = σ.1 11 0 31 := by
  have go : ∀ σ, MF b t σ1 L B m σ f → ∃ σ', j_X11_isCounted_15 σ = some σ' ∧ MF b t σ1 L B m σ' f ∧ σ'.1 11 0 31 = σ.1 11 0 31 := fun σ F => by
    obtain ⟨x1, x2, x3, p, x4, x5⟩ := F
    unfold j_X11_isCounted_15
    exact ⟨_, rfl, ⟨x1.m11 (fun k j q1 q2 => by rw [uI_1, if_neg (by omega)]), by rw [uI_1, if_neg (by omega)]; exact x2, x3, p, x4, by rw [uI_1, if_neg (by omega)]; exact x5⟩, by rw [uI_1, if_neg (by omega)]⟩
  unfold d_X11_isCounted
  by_cases e : σ.1 11 0 37 = 60
  · rw [if_pos e]
    obtain ⟨σ2, e2, F, e31⟩ := H.fails 3 x
    rw [e2]
    obtain ⟨σ3, e3, F3, e4⟩ := go _ F
    exact ⟨σ3, e3, F3, e4.trans e31⟩
  · rw [if_neg e]
    exact go _ H
theorem MF.up (H : MF b t σ1 L B m σ f) {p : Nat} (hp : p ≤ m) : MF b t σ1 L B m (uI σ 11 0 31 (nI p)) f := by
  obtain ⟨x1, x2, x3, -, -⟩ := H
  exact ⟨x1.m11 (fun k j q1 q2 => by rw [uI_1, if_neg (by omega)]), by rw [uI_1, if_neg (by omega)]; exact x2, x3, p, hp, by rw [uI_1, if_pos ⟨rfl, rfl, rfl⟩]⟩
end
