/-! CLASS AND REFERENCE SIDE BY SIDE -/
def rLog (σ : zH) (s : Nat) (τ : zH) : Prop := ∃ sz q, sz ≤ 192 ∧ q ≤ 192 ∧ σ.1 6 s 1 + 1 = nI q ∧ σ.1 6 s 2 = nI sz ∧ τ.1 42 0 9 = nI sz ∧ ∀ k, 1 ≤ k → k ≤ sz → σ.1 30 s ((q + 192 - k) % 192) = τ.1 66 0 (k - 1)
def rBell (σ : zH) (s : Nat) (τ : zH) : Prop := σ.1 0 (s + 1) 8 = τ.1 42 0 2 ∧ ∃ b, b ≤ 8 ∧ σ.1 0 (s + 1) 5 = nI b ∧ τ.1 42 0 1 = nI b ∧ ∀ i, i < b → σ.1 16 (s + 1) i = τ.1 47 0 i ∧ σ.1 17 (s + 1) i = τ.1 48 0 i
/-- the State at instance s (its Log too) and the reference's rows in τ hold the same -/
def rLive (σ : zH) (s : Nat) (τ : zH) (E : qE) (wt : Int32) (D : qD) : Prop := rP 0 σ s E wt D ∧ rMP 0 τ (-1) E wt D ∧ (σ.1 8 s 12 = τ.1 42 0 5 ∧ σ.1 8 s 13 = τ.1 42 0 6) ∧ (0 ≤ (τ.1 42 0 5).toInt ∧ (τ.1 42 0 5).toInt ≤ (D 7 0).toInt) ∧ (τ.1 42 0 5 = 0 ↔ τ.1 42 0 6 = -2) ∧ (D 7 0).toInt ≤ 9999 ∧ rLog σ s τ ∧ rBell σ s τ
/-- where a row begins in an image of the reference -/
def ioff (k : Nat) : Nat := match k with
  | 42 => 0
  | 43 => 11
  | 44 => 23
  | 45 => 35
  | 46 => 47
  | 47 => 59
  | 48 => 67
  | 49 => 75
  | 50 => 83
  | 51 => 91
  | 62 => 99
  | 63 => 111
  | 64 => 123
  | 65 => 135
  | 66 => 147
  | 67 => 339
  | 68 => 351
  | 69 => 363
  | _ => 375
def imgH (σ : zH) (m : Nat) : zH := (fun k i j => if k = 11 then σ.1 11 i j else σ.1 90 0 (390 * m + ioff k + j), σ.2)
theorem imgH_ne (σ : zH) (m : Nat) {k : Nat} (h : k ≠ 11) (i j : Nat) : (imgH σ m).1 k i j = σ.1 90 0 (390 * m + ioff k + j) := if_neg h
def rTape (σc σm : zH) : Prop := ∃ t, t ≤ 400 ∧ σc.1 9 0 1 = nI t ∧ σm.1 11 0 30 = nI t ∧ ∀ i, i < t → σc.1 37 0 i = σm.1 70 0 i &&& 255 ∧ -128 ≤ (σm.1 70 0 i).toInt ∧ (σm.1 70 0 i).toInt < 128
def rLaws (σc σm : zH) : Prop := ∃ L, L ≤ 6 ∧ σc.1 10 0 5 = nI L ∧ σm.1 11 0 34 = nI L ∧ ∀ r, r < L → ∃ cl, rL σc r cl ∧ rML σm r cl
def rImg (σc σm : zH) : Prop := ∀ k, k < 4 → ∃ b, σc.1 41 0 k = b2i b ∧ σm.1 91 0 k = b2i b ∧ (b = true → ∃ E wt D, rLive σc (k + 1) (imgH σm k) E wt D)
/-- a camp's men are no negative number -/
def menOK (x : Int32) (f : Nat → Int32) : Prop := ∀ n i, x = nI n → n ≤ 12 → i < n → 0 ≤ (f i).toInt ∧ (f i).toInt ≤ 9999
theorem menOK.cg {x : Int32} {f g : Nat → Int32} (h : menOK x f) (e : ∀ j, j < 12 → g j = f j) : menOK x g := fun n i h1 h2 h3 => by rw [e i (by omega)]; exact h n i h1 h2 h3
def rMen (σ : zH) : Prop := ∀ s, 1 ≤ s → s ≤ 5 → menOK (σ.1 0 s 0) (σ.1 12 s)
theorem rMen.mv {σ σ' : zH} (h : rMen σ) (e : ∀ k i, k = 0 ∨ k = 12 → 1 ≤ i → i ≤ 5 → σ'.1 k i = σ.1 k i) : rMen σ' := fun s h1 h2 => by rw [e 0 s (Or.inl rfl) h1 h2, e 12 s (Or.inr rfl) h1 h2]; exact h s h1 h2
def qR (σc σm : zH) : Prop := rTape σc σm ∧ rLaws σc σm ∧ (∃ E wt D, rLive σc 0 σm E wt D) ∧ rImg σc σm ∧ σm.1 11 0 39 = 10 ∧ rMen σc
/-- with another law, another feast -/
def qwl (E : qE) (L : Bool → (Nat → Int64) → Bool) : qE := (E.1, E.2.1, E.2.2.1, E.2.2.2.1, E.2.2.2.2.1, L, E.2.2.2.2.2.2)
def qwf (E : qE) (f : Int32) : qE := (E.1, E.2.1, E.2.2.1, E.2.2.2.1, f, E.2.2.2.2.2.1, E.2.2.2.2.2.2)
theorem rP.wl {W : Int32} {σ : zH} {s : Nat} {E : qE} {w : Int32} {D : qD} (h : rP W σ s E w D) (L : Bool → (Nat → Int64) → Bool) : rP W σ s (qwl E L) w D := h
theorem rMP.wl {W w wt : Int32} {σ : zH} {E : qE} {D : qD} (h : rMP W σ w E wt D) (L : Bool → (Nat → Int64) → Bool) : rMP W σ w (qwl E L) wt D := h
theorem rLive.wl {σ τ : zH} {s : Nat} {E : qE} {wt : Int32} {D : qD} (h : rLive σ s τ E wt D) (L : Bool → (Nat → Int64) → Bool) : rLive σ s τ (qwl E L) wt D := h
theorem rLive.mv {σ τ σ' τ' : zH} {s : Nat} {E : qE} {wt : Int32} {D : qD} (h : rLive σ s τ E wt D) (h1 : ∀ k, k = 0 ∨ (12 ≤ k ∧ k ≤ 20) → σ'.1 k (s + 1) = σ.1 k (s + 1)) (h2 : ∀ k, k = 6 ∨ k = 8 ∨ (30 ≤ k ∧ k ≤ 36) → σ'.1 k s = σ.1 k s)
    (k1 : ∀ k, 43 ≤ k ∧ k ≤ 51 → ∀ j, τ'.1 k 0 j = τ.1 k 0 j) (k2 : ∀ j, j < 11 → τ'.1 42 0 j = τ.1 42 0 j) (k3 : ∀ k, 62 ≤ k → k ≤ 69 → ∀ j, j < klen k → τ'.1 k 0 j = τ.1 k 0 j) (k4 : τ'.1 11 0 29 = τ.1 11 0 29) : rLive σ' s τ' E wt D := by
  obtain ⟨a1, a2, a3, a4, a5, a6, ⟨sz, q, a7, a8, a9, a10, a11, a12⟩, a13, b, a14, a15, a16, a17⟩ := h
  refine ⟨a1.mvF h1 (fun k hk => h2 k (by omega)), ?_, ⟨by rw [h2 8 (by omega), k2 5 (by omega)]; exact a3.1, by rw [h2 8 (by omega), k2 6 (by omega)]; exact a3.2⟩, by rw [k2 5 (by omega)]; exact a4, by rw [k2 5 (by omega), k2 6 (by omega)]; exact a5, a6, ⟨sz, q, a7, a8, by rw [h2 6 (by omega)]; exact a9, by rw [h2 6 (by omega)]; exact a10, by rw [k2 9 (by omega)]; exact a11, fun k hk1 hk2 => ?_⟩, by rw [h1 0 (by omega), k2 2 (by omega)]; exact a13, b, a14, by rw [h1 0 (by omega)]; exact a15, by rw [k2 1 (by omega)]; exact a16, fun i hi => ?_⟩
  · obtain ⟨hC, hS, hO, hw⟩ := a2
    have hn := hC.1
    have k1' : ∀ k, 43 ≤ k ∧ k ≤ 51 → τ'.1 k 0 = τ.1 k 0 := fun k hk => funext (k1 k hk)
    refine ⟨?_, ⟨by rw [k2 4 (by omega)]; exact hS.1, by rw [k2 10 (by omega)]; exact hS.2.1, by rw [k2 7 (by omega)]; exact hS.2.2.1, fun r i hr hi => ?_⟩, hO, by rw [k2 3 (by omega)]; exact hw⟩
    · unfold rMC at hC ⊢
      rw [k4, k1' 47 (by omega), k1' 48 (by omega), k1' 49 (by omega), k1' 50 (by omega), k1' 51 (by omega), k2 0 (by omega), k2 1 (by omega), k2 2 (by omega), k2 8 (by omega)]
      exact ⟨hC.1, hC.2.1, fun r i hr hi => by rw [k1' (43 + r) (by omega)]; exact hC.2.2.1 r i hr hi, hC.2.2.2⟩
    · have hm := mrow_lt hr
      rw [k3 (mrow r) hm.1 hm.2.1 i (by unfold klen; rw [if_neg hm.2.2]; omega)]
      exact hS.2.2.2 r i hr hi
  · rw [h2 30 (by omega), k3 66 (by omega) (by omega) _ (by unfold klen; rw [if_pos rfl]; omega)]
    exact a12 k hk1 hk2
  · rw [h1 16 (by omega), h1 17 (by omega), k1 47 (by omega), k1 48 (by omega)]
    exact a17 i hi
/-- what a call of the class may use as it likes -/
def Gc (k i : Nat) : Prop := ((k = 8 ∨ (31 ≤ k ∧ k ≤ 36)) ∧ 5 ≤ i) ∨ ((k = 0 ∨ (12 ≤ k ∧ k ≤ 20)) ∧ (6 ≤ i ∨ i = 0)) ∨ (21 ≤ k ∧ k ≤ 23) ∨ k = 28 ∨ k = 29 ∨ k = 1 ∨ k = 2 ∨ k = 3 ∨ k = 5 ∨ k = 7
theorem qR.c {σc σm σc' : zH} (h : qR σc σm) (hz : zsm Gc σc σc') : qR σc' σm := by
  obtain ⟨⟨t, t1, t2, t3, t4⟩, ⟨L, l1, l2, l3, l4⟩, ⟨E, wt, D, v⟩, im, wd⟩ := h
  refine ⟨⟨t, t1, by rw [(hz 9 0 (by unfold Gc; omega)).1]; exact t2, t3, fun i hi => by rw [(hz 37 0 (by unfold Gc; omega)).1]; exact t4 i hi⟩, ⟨L, l1, by rw [(hz 10 0 (by unfold Gc; omega)).1]; exact l2, l3, fun r hr => ?_⟩, ⟨E, wt, D, ?_⟩, fun k hk => ?_, wd.1, wd.2.mv (fun k i hk h1 h2 => (hz k i (by unfold Gc; omega)).1)⟩
  · obtain ⟨cl, c1, c2⟩ := l4 r hr
    exact ⟨cl, c1.mv (fun k hk => (hz k r (by unfold Gc; omega)).1), c2⟩
  · exact v.mv (fun k hk => (hz k 1 (by unfold Gc; omega)).1) (fun k hk => (hz k 0 (by unfold Gc; omega)).1) (fun _ _ _ => rfl) (fun _ _ => rfl) (fun _ _ _ _ _ => rfl) rfl
  · obtain ⟨b, b1, b2, b3⟩ := im k hk
    refine ⟨b, by rw [(hz 41 0 (by unfold Gc; omega)).1]; exact b1, b2, fun hb => ?_⟩
    obtain ⟨E, wt, D, v⟩ := b3 hb
    exact ⟨E, wt, D, v.mv (fun k' hk' => (hz k' (k + 1 + 1) (by unfold Gc; omega)).1) (fun k' hk' => (hz k' (k + 1) (by unfold Gc; omega)).1) (fun _ _ _ => rfl) (fun _ _ => rfl) (fun _ _ _ _ _ => rfl) rfl⟩
/-- what a call of the reference leaves -/
def ms2 (σ τ : zH) : Prop := (∀ k, (43 ≤ k ∧ k ≤ 51) ∨ (70 ≤ k ∧ k ≤ 76) ∨ k = 90 ∨ k = 91 → τ.1 k 0 = σ.1 k 0) ∧ (∀ j, j < 11 → τ.1 42 0 j = σ.1 42 0 j) ∧ (∀ k, 62 ≤ k → k ≤ 69 → ∀ j, j < klen k → τ.1 k 0 j = σ.1 k 0 j) ∧ (∀ j, j = 29 ∨ j = 30 ∨ j = 34 ∨ j = 39 → τ.1 11 0 j = σ.1 11 0 j)
theorem msame.s2 {σ τ : zH} (h : msame σ τ) : ms2 σ τ := ⟨fun k hk => (h.1 k 0 (by omega)).1, h.2.1, h.2.2, fun j _ => by rw [(h.1 11 0 (by omega)).1]⟩
theorem ms2.tr {σ τ υ : zH} (h : ms2 σ τ) (h2 : ms2 τ υ) : ms2 σ υ := ⟨fun k hk => (h2.1 k hk).trans (h.1 k hk), fun j hj => (h2.2.1 j hj).trans (h.2.1 j hj), fun k a b j hj => (h2.2.2.1 k a b j hj).trans (h.2.2.1 k a b j hj), fun j hj => (h2.2.2.2 j hj).trans (h.2.2.2 j hj)⟩
theorem qR.m {σc σm σm' : zH} (h : qR σc σm) (hs : ms2 σm σm') : qR σc σm' := by
  obtain ⟨⟨t, t1, t2, t3, t4⟩, ⟨L, l1, l2, l3, l4⟩, ⟨E, wt, D, v⟩, im, wd⟩ := h
  refine ⟨⟨t, t1, t2, by rw [hs.2.2.2 30 (by omega)]; exact t3, fun i hi => by rw [hs.1 70 (by omega)]; exact t4 i hi⟩, ⟨L, l1, l2, by rw [hs.2.2.2 34 (by omega)]; exact l3, fun r hr => ?_⟩, ⟨E, wt, D, ?_⟩, fun k hk => ?_, by rw [hs.2.2.2 39 (by omega)]; exact wd.1, wd.2⟩
  · obtain ⟨cl, c1, c2⟩ := l4 r hr
    exact ⟨cl, c1, c2.mv (fun k hk => hs.1 k (by omega))⟩
  · exact v.mv (fun _ _ => rfl) (fun _ _ => rfl) (fun k hk j => by rw [hs.1 k (by omega)]) hs.2.1 hs.2.2.1 (hs.2.2.2 29 (by omega))
  · obtain ⟨b, b1, b2, b3⟩ := im k hk
    refine ⟨b, b1, by rw [hs.1 91 (by omega)]; exact b2, fun hb => ?_⟩
    obtain ⟨E, wt, D, v⟩ := b3 hb
    have h90 : ∀ k' j, k' ≠ 11 → (imgH σm' k).1 k' 0 j = (imgH σm k).1 k' 0 j := fun k' j hk' => by
      rw [imgH_ne _ _ hk', imgH_ne _ _ hk', hs.1 90 (by omega)]
    exact ⟨E, wt, D, v.mv (fun _ _ => rfl) (fun _ _ => rfl) (fun k' hk' j => h90 k' j (by omega)) (fun j _ => h90 42 j (by omega)) (fun k' a b j _ => h90 k' j (by omega)) (hs.2.2.2 29 (by omega))⟩
/-- both answer the same, and go on side by side -/
def zrel (x y : Option (zH × Int32)) (Q : zH → zH → Prop) : Prop := ∃ a b v, x = some (a, v) ∧ y = some (b, v) ∧ Q a b
theorem zrel_of {x y : Option (zH × Int32)} {Q : zH → zH → Prop} {P1 P2 : zH → Prop} {v : Int32} (h1 : zwp x (fun p => P1 p.1 ∧ p.2 = v)) (h2 : zwp y (fun p => P2 p.1 ∧ p.2 = v)) (hq : ∀ a b, P1 a → P2 b → Q a b) : zrel x y Q := by
  obtain ⟨⟨a, u⟩, e1, p1, rfl⟩ := h1
  obtain ⟨⟨b, u2⟩, e2, p2, e3⟩ := h2
  exact ⟨a, b, u, e1, by rw [e2, show u2 = u from e3], hq a b p1 p2⟩
theorem zrel_same {σc σm : zH} {v : Int32} {Q : zH → zH → Prop} (h : Q σc σm) : zrel (some (σc, v)) (some (σm, v)) Q := ⟨σc, σm, v, rfl, rfl, h⟩
