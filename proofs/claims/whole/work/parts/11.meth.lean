/-! what the printed methods rest on -/
/-- how often a loop may go round; a number that nothing unfolds -/
noncomputable def zN : Nat := Classical.choose (⟨4096, rfl⟩ : ∃ n : Nat, n = 4096)
theorem zN_eq : zN = 4096 := Classical.choose_spec (⟨4096, rfl⟩ : ∃ n : Nat, n = 4096)
def krI (σ : zH) (v : zAV) : Option (zH × Int32) := match v with
  | .inl x => some (σ, x)
  | _ => none
def krL (σ : zH) (v : zAV) : Option (zH × Int64) := match v with
  | .inr (.inl x) => some (σ, x)
  | _ => none
def krR (σ : zH) (v : zAV) : Option (zH × Nat) := match v with
  | .inr (.inr (.inl q)) => if q.1 = 200 then some (σ, q.2) else none
  | _ => none
def krV (σ : zH) (v : zAV) : Option zH := match v with
  | .inr (.inr (.inr _)) => some σ
  | _ => none
def zHX (X : zX) : Prop := zOK X ∧ (∀ q ∈ zdm X, q.1 < 200 ∧ q.2 < 2 ^ 31) ∧ zJlen X ∧ zJch X
theorem zHX.hY {ρ : Type} {X : zX} (hX : zHX X) {m : Nat} {C : Nat → zH → List zAV → (zH → zAV → Option ρ) → Option ρ} (hC : zCS X C) (hm : zmok m) : zHY X m C := ⟨hX.1, hX.2.1, hX.2.2.1, hX.2.2.2, hC, hm⟩
def zc0 {ρ : Type} : Nat → zH → List zAV → (zH → zAV → Option ρ) → Option ρ := fun _ _ _ _ => none
theorem zc0_ok {ρ : Type} (X : zX) : zCS X (zc0 (ρ := ρ)) := fun _ _ _ _ _ h => by cases h
def zshape (st kd np : Nat) (av : List zAV) : Prop := match st with
  | 0 => ∃ i t, av = vR kd i :: t ∧ t.length = np
  | _ => av.length = np
def zmeta (n ml rc st kd np : Nat) : Bool := Nat.ble (n + 1) zNM && decide (mL n = ml) && decide (mRc n = rc) && decide (mSt n = st) && decide (zkd n = kd) && decide (mP n = np)
def zcon {ρ : Type} (X : zX) (n : Nat) (σ : zH) (av : List zAV) (q : zH → zAV → Option ρ) (r : ρ) : Prop :=
  ∃ σ' v, zMet X n σ av σ' v ∧ zval X v ∧ (v = vU ↔ mRc n = 9) ∧ (if mSt n = 0 then ∃ i t, av = vR (zkd n) i :: t ∧ t.length = mP n else av.length = mP n) ∧ q σ' v = some r
theorem zcon_of {ρ τ : Type} {X : zX} {n ml rc st kd np : Nat} {σ : zH} {av : List zAV} {q : zH → zAV → Option ρ} {r : ρ} {D : Option τ} {b : τ → Option ρ} {kr : zH → zAV → Option τ} (hz : zmeta n ml rc st kd np = true) (hsh : zshape st kd np av) (hl : (zflat av).length ≤ ml)
    (hv : ∀ a ∈ av, zval X a) (hb : ∀ σ v y, kr σ v = some y → (v = vU ↔ rc = 9) ∧ b y = q σ v) (h : D.bind b = some r) (hD : ∀ y, D = some y → zGW X n kr 0 σ (zloc av ml) [] y) : zcon X n σ av q r := by
  unfold zmeta at hz
  simp only [Bool.and_eq_true, decide_eq_true_eq] at hz
  obtain ⟨⟨⟨⟨⟨h1, h2⟩, h3⟩, h4⟩, h5⟩, h6⟩ := hz
  cases hd : D with
  | none => rw [hd] at h; cases h
  | some y =>
    rw [hd] at h
    have hw := hD y hd
    rw [← h2] at hl hw
    obtain ⟨σ', v, k1, k2, k3⟩ := zmeth (zmok_all n (Nat.le_of_ble_eq_true h1)) hl hv hw
    obtain ⟨k4, k5⟩ := hb σ' v y k1
    refine ⟨σ', v, k3, k2, by rw [h3]; exact k4, ?_, by rw [← k5]; exact h⟩
    rw [h4, h5, h6]
    cases st with
    | zero => rw [if_pos rfl]; exact hsh
    | succ s => rw [if_neg (Nat.succ_ne_zero s)]; exact hsh
theorem zcon_I {ρ : Type} {X : zX} {n ml rc st kd np : Nat} {σ : zH} {av : List zAV} {q : zH → zAV → Option ρ} {r : ρ} {D : Option (zH × Int32)} (hz : zmeta n ml rc st kd np = true) (hrc : ¬ rc = 9) (hsh : zshape st kd np av) (hl : (zflat av).length ≤ ml) (hv : ∀ a ∈ av, zval X a) (h : (D.bind fun p => q p.1 (vI p.2)) = some r) (hD : ∀ y, D = some y → zGW X n krI 0 σ (zloc av ml) [] y) : zcon X n σ av q r :=
  zcon_of hz hsh hl hv (fun σ v y hk => by
    rcases v with x | x | x | x
    · cases hk; exact ⟨⟨fun e => (by cases e), fun e => absurd e hrc⟩, rfl⟩
    · cases hk
    · cases hk
    · cases hk) h hD
theorem zcon_L {ρ : Type} {X : zX} {n ml rc st kd np : Nat} {σ : zH} {av : List zAV} {q : zH → zAV → Option ρ} {r : ρ} {D : Option (zH × Int64)} (hz : zmeta n ml rc st kd np = true) (hrc : ¬ rc = 9) (hsh : zshape st kd np av) (hl : (zflat av).length ≤ ml) (hv : ∀ a ∈ av, zval X a) (h : (D.bind fun p => q p.1 (vL p.2)) = some r) (hD : ∀ y, D = some y → zGW X n krL 0 σ (zloc av ml) [] y) : zcon X n σ av q r :=
  zcon_of hz hsh hl hv (fun σ v y hk => by
    rcases v with x | x | x | x
    · cases hk
    · cases hk; exact ⟨⟨fun e => (by cases e), fun e => absurd e hrc⟩, rfl⟩
    · cases hk
    · cases hk) h hD
theorem zcon_R {ρ : Type} {X : zX} {n ml rc st kd np : Nat} {σ : zH} {av : List zAV} {q : zH → zAV → Option ρ} {r : ρ} {D : Option (zH × Nat)} (hz : zmeta n ml rc st kd np = true) (hrc : ¬ rc = 9) (hsh : zshape st kd np av) (hl : (zflat av).length ≤ ml) (hv : ∀ a ∈ av, zval X a) (h : (D.bind fun p => q p.1 (vR 200 p.2)) = some r) (hD : ∀ y, D = some y → zGW X n krR 0 σ (zloc av ml) [] y) : zcon X n σ av q r :=
  zcon_of hz hsh hl hv (fun σ v y hk => by
    rcases v with x | x | x | x
    · cases hk
    · cases hk
    · unfold krR at hk
      dsimp only at hk
      split at hk
      · rename_i e
        cases hk
        exact ⟨⟨fun e => (by cases e), fun e => absurd e hrc⟩, by rw [← e]⟩
      · cases hk
    · cases hk) h hD
theorem zcon_V {ρ : Type} {X : zX} {n ml rc st kd np : Nat} {σ : zH} {av : List zAV} {q : zH → zAV → Option ρ} {r : ρ} {D : Option zH} (hz : zmeta n ml rc st kd np = true) (hrc : rc = 9) (hsh : zshape st kd np av) (hl : (zflat av).length ≤ ml) (hv : ∀ a ∈ av, zval X a) (h : (D.bind fun σ => q σ vU) = some r) (hD : ∀ y, D = some y → zGW X n krV 0 σ (zloc av ml) [] y) : zcon X n σ av q r :=
  zcon_of hz hsh hl hv (fun σ v y hk => by
    rcases v with x | x | x | x
    · cases hk
    · cases hk
    · cases hk
    · cases hk; exact ⟨⟨fun _ => hrc, fun _ => rfl⟩, rfl⟩) h hD
/-! the pieces that tie a denotation to its code -/
def zlet {α : Type} (s : zH) (f : zH → α) : α := f s
section
variable {ρ : Type} {C : Nat → zH → List zAV → (zH → zAV → Option ρ) → Option ρ} {J : Nat → Option (zH → List zAV → List zAV → Option ρ)} {rt : Nat} {kr : zH → zAV → Option ρ} {bl : List (Nat × List zEnt)}
theorem zrun_c {t n : Nat} {σ : zH} {L st : List zAV} {f : zH → List zAV → List zAV → Option ρ} (h : J t = some f) : zrun C J rt kr bl (n + 1) t σ L st = f σ L st := by rw [zrun, h]
theorem zrun_b {t n : Nat} {σ : zH} {L st : List zAV} {es : List zEnt} (h : J t = none) (h2 : zlk bl t = some es) : zrun C J rt kr bl (n + 1) t σ L st = zev C (zrun C J rt kr bl n) rt kr es σ L st := by rw [zrun, h, h2]
theorem zin_b {t : Nat} {σ : zH} {L st : List zAV} {es : List zEnt} (h2 : zlk bl t = some es) : zin C J rt kr bl t σ L st = zev C (zrun C J rt kr bl 60) rt kr es σ L st := by rw [zin, h2]
theorem pif_eq {x y : Int32} {t f t' f' : Option ρ} (h1 : t = t') (h2 : f = f') : zif .eq x y t f = if x = y then t' else f' := by rw [h1, h2]; rfl
theorem pif_ne {x y : Int32} {t f t' f' : Option ρ} (h1 : t = t') (h2 : f = f') : zif .ne x y t f = if x = y then f' else t' := by rw [h1, h2]; rfl
theorem pif_lt {x y : Int32} {t f t' f' : Option ρ} (h1 : t = t') (h2 : f = f') : zif .lt x y t f = if x < y then t' else f' := by rw [h1, h2]; rfl
theorem pif_ge {x y : Int32} {t f t' f' : Option ρ} (h1 : t = t') (h2 : f = f') : zif .ge x y t f = if x < y then f' else t' := by rw [h1, h2]; rfl
theorem pif_gt {x y : Int32} {t f t' f' : Option ρ} (h1 : t = t') (h2 : f = f') : zif .gt x y t f = if y < x then t' else f' := by rw [h1, h2]; rfl
theorem pif_le {x y : Int32} {t f t' f' : Option ρ} (h1 : t = t') (h2 : f = f') : zif .le x y t f = if y < x then f' else t' := by rw [h1, h2]; rfl
theorem pif {P : Prop} {t f t' f' : Option ρ} (d : Decidable P) (h1 : t = t') (h2 : f = f') : @ite (Option ρ) P d t f = @ite (Option ρ) P d t' f' := by rw [h1, h2]
theorem pix {x : Int32} {n : Nat} {f f' : Nat → Option ρ} (h : ∀ j, f j = f' j) : ix x n f = ix x n f' := by rw [show f = f' from funext h]
theorem pbd {τ : Type} {x : Option τ} {f f' : τ → Option ρ} (h : ∀ j, f j = f' j) : x.bind f = x.bind f' := by rw [show f = f' from funext h]
theorem plt {s : zH} {f f' : zH → Option ρ} (h : ∀ j, f j = f' j) : zlet s f = zlet s f' := by rw [show f = f' from funext h]
theorem pgd {b : Bool} {x y : Option ρ} (h : x = y) : gd b x = gd b y := by rw [h]
theorem ptv {b : Int32} {x y : Option ρ} (h : x = y) : tv b x = tv b y := by rw [h]
theorem pnz {b : Int32} {x y : Option ρ} (h : x = y) : nz b x = nz b y := by rw [h]
theorem pnl {b : Int64} {x y : Option ρ} (h : x = y) : nzL b x = nzL b y := by rw [h]
end
