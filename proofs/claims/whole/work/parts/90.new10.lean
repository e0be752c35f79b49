/-! the cells by their kinds -/
def nsg (k : Nat) : List (Nat × Int32) := match k with
  | 1 => [(1, -1)]
  | 5 => [(1, -1)]
  | 6 => [(1, -1)]
  | 8 => [(13, -2), (16, -1)]
  | 11 => [(29, -1), (39, 10)]
  | 42 => [(6, -2)]
  | _ => []
def nσ0 : zH := (fun k _ j => nw_up (nsg k) j, fun _ _ _ => 0)
def nzad (al sad : Nat → Nat) : Nat → Nat → Nat := fun k i => if k = 200 then sad i else al (npl k i)
def nXs (X : zX) (al sad : Nat → Nat) (dm : List (Nat × Nat)) : zX := (zl X, zD X, nzad al sad, zcA X, dm, zav X)
def nve : zAV → zAV → Bool
  | .inl x, .inl y => decide (x = y)
  | .inr (.inr (.inl q)), .inr (.inr (.inl r)) => decide (q.1 ≠ 200) && Nat.beq (npl q.1 q.2) r.2
  | .inr (.inr (.inr _)), .inr (.inr (.inr _)) => true
  | _, _ => false
theorem nve_ok {al sad : Nat → Nat} {v w : zAV} (h : nve v w = true) : cV (nzad al sad) v = cV (nw_ad al) w := by
  rcases v with x | x | x | x <;> rcases w with y | y | y | y <;> first | cases h | skip
  · have := of_decide_eq_true h
    rw [this]
    rfl
  · obtain ⟨h1, h2⟩ := nand2 h
    have h1 := of_decide_eq_true h1
    have h2 := Nat.eq_of_beq_eq_true h2
    show Value.ref (nzad al sad x.1 x.2) = Value.ref (al y.2)
    rw [nzad, if_neg h1, h2]
  · rfl
def nui : List (Nat × Nat) → Nat → Option Nat
  | [], _ => none
  | q :: t, j => if j = q.1 then some q.2 else nui t j
theorem nui_al (al : Nat → Nat) : ∀ (l : List (Nat × Nat)) (j : Nat), nw_uq al l j = (nui l j).map al
  | [], _ => rfl
  | q :: t, j => by
    rw [nw_uq, nui]
    split
    · rfl
    · exact nui_al al t j
def nck (cs : List nw_C) (p : Nat × Nat) : Bool := Nat.blt p.1 200 && match cs[npl p.1 p.2]? with
  | some (.inl q) => Nat.blt p.1 12 && Nat.beq q.1 p.1 && Nat.beq q.2.length (zfN p.1) && (List.range (zfN p.1)).all fun j => nve (zfv nσ0 p.1 p.2 j) (q.2.getD j vU)
  | some (.inr (.inl q)) => Nat.beq (aT p.1) q.1 && Nat.blt q.1 4 && Nat.beq (aN p.1) q.2.1 && decide (q.2.2 = nsg p.1)
  | some (.inr (.inr q)) => Nat.beq (aT p.1) q.1 && Nat.blt 3 q.1 && Nat.blt q.1 7 && Nat.beq (aN p.1) q.2.1 && Nat.blt (aK p.1) 200 && (List.range q.2.1).all fun j => decide (nui q.2.2 j = some (npl (aK p.1) (aB p.1 + j)))
  | none => false
theorem narrV {cI : ClassId} {N : Nat} {f g : Nat → Value} (h : ∀ j, j < N → f j = g j) : arrV cI N f = arrV cI N g := by
  have : (fun (j : Fin N) => f j.val) = fun (j : Fin N) => g j.val := funext fun j => h j.val j.isLt
  unfold arrV
  rw [this]
theorem nname {X : zX} {al sad : Nat → Nat} {dm : List (Nat × Nat)} {cs : List nw_C} {H : Heap} (hd : dm.all (nck cs) = true) (hP : va_P (zD X) zcls (nw_W X al cs) H) : va_P (zD X) zcls (zw (nXs X al sad dm) nσ0) H := by
  intro k q hk
  have hk2 : (dm.map fun q => (zad (nXs X al sad dm) q.1 q.2, zent (nXs X al sad dm) nσ0 q.1 q.2))[k]? = some q := hk
  rw [List.getElem?_map] at hk2
  cases hp : dm[k]? with
  | none => rw [hp] at hk2; cases hk2
  | some p =>
    rw [hp] at hk2
    cases hk2
    have h1 := List.all_eq_true.mp hd p (List.mem_of_getElem? hp)
    unfold nck at h1
    obtain ⟨h200, h1⟩ := nand2 h1
    have h200 := nw_blt h200
    have hz : zad (nXs X al sad dm) p.1 p.2 = al (npl p.1 p.2) := if_neg (by omega)
    show va_at (zD X) zcls (zad (nXs X al sad dm) p.1 p.2, zent (nXs X al sad dm) nσ0 p.1 p.2) H
    rw [hz]
    split at h1
    · rename_i u hu
      obtain ⟨h1, c4⟩ := nand2 h1
      obtain ⟨h1, c3⟩ := nand2 h1
      obtain ⟨c1, c2⟩ := nand2 h1
      have c1 := nw_blt c1
      have c2 := Nat.eq_of_beq_eq_true c2
      have c3 := Nat.eq_of_beq_eq_true c3
      have hat := hP _ _ (nw_has X (al := al) hu)
      rw [zent_o c1]
      have e : zfs (nXs X al sad dm) nσ0 p.1 p.2 = u.2.map (cV (nw_ad al)) := by
        refine List.ext_getElem? (fun j => ?_)
        by_cases hj : j < zfN p.1
        · rw [zfs_at hj, List.getElem?_map, List.getElem?_eq_getElem (by omega), Option.map_some]
          have h4 := List.all_eq_true.mp c4 j (List.mem_range.mpr hj)
          have h5 := nve_ok (al := al) (sad := sad) h4
          rw [List.getD_eq_getElem?_getD, List.getElem?_eq_getElem (by omega), Option.getD_some] at h5
          exact congrArg some h5
        · rw [List.getElem?_eq_none (by simpa [zfs] using hj), List.getElem?_eq_none (by rw [List.length_map]; omega)]
      rw [e]
      have hat : va_at (zD X) zcls (al (npl p.1 p.2), .inr (u.1, u.2.map (cV (nw_ad al)))) H := hat
      rw [c2] at hat
      exact hat
    · rename_i u hu
      obtain ⟨h1, c4⟩ := nand2 h1
      obtain ⟨h1, c3⟩ := nand2 h1
      obtain ⟨c1, c2⟩ := nand2 h1
      have c1 := Nat.eq_of_beq_eq_true c1
      have c2 := nw_blt c2
      have c3 := Nat.eq_of_beq_eq_true c3
      have c4 := of_decide_eq_true c4
      have hat := hP _ _ (nw_has X (al := al) hu)
      obtain ⟨t, N, up⟩ := u
      have c1 : aT p.1 = t := c1
      have c3 : aN p.1 = N := c3
      have c4 : up = nsg p.1 := c4
      by_cases h3 : t = 3
      · rw [zent_l (by omega)]
        rw [nw_e, if_pos h3] at hat
        rw [c1, c3, h3]
        exact hat
      · rw [zent_i (by show aT p.1 < 3; have : t < 4 := c2; omega)]
        rw [nw_e, if_neg h3] at hat
        rw [c1, c3]
        rw [c4] at hat
        exact hat
    · rename_i u hu
      obtain ⟨h1, c6⟩ := nand2 h1
      obtain ⟨h1, c5⟩ := nand2 h1
      obtain ⟨h1, c4⟩ := nand2 h1
      obtain ⟨h1, c3⟩ := nand2 h1
      obtain ⟨c1, c2⟩ := nand2 h1
      have hat := hP _ _ (nw_has X (al := al) hu)
      obtain ⟨t, N, up⟩ := u
      have c1 : aT p.1 = t := Nat.eq_of_beq_eq_true c1
      have c2 : 3 < t := nw_blt c2
      have c3 : t < 7 := nw_blt c3
      have c4 : aN p.1 = N := Nat.eq_of_beq_eq_true c4
      have c5 := nw_blt c5
      rw [zent_q (by omega) (by omega), c1, c4]
      have hat : H[al (npl p.1 p.2)]? = some (arrV (zcA X t) N (fun j => va_rf (nw_uq al up j))) := hat
      show H[al (npl p.1 p.2)]? = some (arrV (zcA X t) N (fun j => va_rf (some (zad (nXs X al sad dm) (aK p.1) (aB p.1 + j)))))
      rw [hat]
      refine congrArg some (narrV (fun j hj => ?_))
      have h6 := of_decide_eq_true (List.all_eq_true.mp c6 j (List.mem_range.mpr hj))
      rw [nui_al, h6, Option.map_some]
      have : zad (nXs X al sad dm) (aK p.1) (aB p.1 + j) = al (npl (aK p.1) (aB p.1 + j)) := if_neg (by omega)
      rw [this]
    · cases h1
set_option maxRecDepth 1000000 in
theorem nckM : (zdom zkM).all (nck ncsM) = true := by decide +kernel
set_option maxRecDepth 1000000 in
theorem nckC : (zdom zkC).all (nck ncsC) = true := by decide +kernel
set_option maxRecDepth 1000000 in
theorem ncloM : zclo (zdom zkM) = true := by decide +kernel
set_option maxRecDepth 1000000 in
theorem ncloC : zclo (zdom zkC) = true := by decide +kernel
def nnd : List Nat → Bool
  | [] => true
  | x :: t => t.all (fun y => !(Nat.beq x y)) && nnd t
set_option maxRecDepth 1000000 in
theorem nndM : nnd ((zdom zkM).map fun q => npl q.1 q.2) = true := by decide +kernel
set_option maxRecDepth 1000000 in
theorem nndC : nnd ((zdom zkC).map fun q => npl q.1 q.2) = true := by decide +kernel
set_option maxRecDepth 1000000 in
theorem nloM : (zdom zkM).all (fun q => Nat.blt q.1 200 && Nat.blt q.2 2147483648) = true := by decide +kernel
set_option maxRecDepth 1000000 in
theorem nloC : (zdom zkC).all (fun q => Nat.blt q.1 200 && Nat.blt q.2 2147483648) = true := by decide +kernel
theorem nnd_inj : ∀ (l : List Nat), nnd l = true → ∀ (i j a : Nat), l[i]? = some a → l[j]? = some a → i = j
  | [], _, i, j, a, hi, _ => by cases hi
  | x :: t, h, i, j, a, hi, hj => by
    obtain ⟨h1, h2⟩ := nand2 h
    have hx : ∀ k, t[k]? = some x → False := fun k hk => by
      have := List.all_eq_true.mp h1 x (List.mem_of_getElem? hk)
      simp at this
    match i, j, hi, hj with
    | 0, 0, _, _ => rfl
    | 0, j + 1, hi, hj => cases hi; exact (hx j hj).elim
    | i + 1, 0, hi, hj => cases hj; exact (hx i hi).elim
    | i + 1, j + 1, hi, hj => exact congrArg Nat.succ (nnd_inj t h2 i j a hi hj)
theorem nck_in {cs : List nw_C} {p : Nat × Nat} (h : nck cs p = true) : npl p.1 p.2 < cs.length := by
  unfold nck at h
  have h1 := (nand2 h).2
  cases e : cs[npl p.1 p.2]? with
  | none => rw [e] at h1; cases h1
  | some c => exact (List.getElem?_eq_some_iff.mp e).1
/-- the world as made is one of the machine's -/
theorem nmade {X : zX} {al sad : Nat → Nat} {dm : List (Nat × Nat)} {cs : List nw_C} {A : Nat → Prop} (hd : dm.all (nck cs) = true) (hc : zclo dm = true) (hn : nnd (dm.map fun q => npl q.1 q.2) = true) (hlo : dm.all (fun q => Nat.blt q.1 200 && Nat.blt q.2 2147483648) = true) (hD : va_D A (nw_W X al cs)) :
    zHX (nXs X al sad dm) ∧ ∀ a, zA (nXs X al sad dm) a → A a := by
  have hadr : ∀ p ∈ dm, zad (nXs X al sad dm) p.1 p.2 = al (npl p.1 p.2) ∧ ∃ c, (nw_W X al cs)[npl p.1 p.2]? = some (al (npl p.1 p.2), c) := fun p hp => by
    have h1 := List.all_eq_true.mp hd p hp
    have h2 := nck_in h1
    have h3 := nw_blt (nand2 (List.all_eq_true.mp hlo p hp)).1
    exact ⟨if_neg (by omega), _, nw_has X (List.getElem?_eq_getElem h2)⟩
  refine ⟨⟨⟨fun i j p q hp hq he => ?_, hc⟩, fun q hq => ?_, zJlen_ok _, zJch_ok _⟩, fun a ha => ?_⟩
  · have hp : dm[i]? = some p := hp
    have hq : dm[j]? = some q := hq
    obtain ⟨e1, c1, w1⟩ := hadr p (List.mem_of_getElem? hp)
    obtain ⟨e2, c2, w2⟩ := hadr q (List.mem_of_getElem? hq)
    have h3 := hD.1 _ _ _ _ w1 w2 (by rw [← e1, ← e2]; exact he)
    exact nnd_inj _ hn i j (npl p.1 p.2) (by rw [List.getElem?_map, hp]; rfl) (by rw [List.getElem?_map, hq, h3]; rfl)
  · have h1 := nand2 (List.all_eq_true.mp hlo q hq)
    exact ⟨nw_blt h1.1, nw_blt h1.2⟩
  · obtain ⟨q, hq, rfl⟩ := ha
    obtain ⟨e1, c1, w1⟩ := hadr q hq
    rw [e1]
    exact hD.2 _ _ w1
