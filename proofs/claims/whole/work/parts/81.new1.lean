/-! WORLDS THAT GROW: the machine of the constructors -/
/-- a cell: an object (class, fields), an array of numbers (type, length, what was put), an array of cells -/
abbrev nw_C : Type := (Nat × List zAV) ⊕ ((Nat × Nat × List (Nat × Int32)) ⊕ (Nat × Nat × List (Nat × Nat)))
def nw_ad (al : Nat → Nat) : Nat → Nat → Nat := fun _ i => al i
def nw_up : List (Nat × Int32) → Nat → Int32
  | [], _ => 0
  | q :: t, j => if j = q.1 then q.2 else nw_up t j
def nw_uq (al : Nat → Nat) : List (Nat × Nat) → Nat → Option Nat
  | [], _ => none
  | q :: t, j => if j = q.1 then some (al q.2) else nw_uq al t j
def nw_e (X : zX) (al : Nat → Nat) : nw_C → va_E
  | .inl q => .inr (q.1, q.2.map (cV (nw_ad al)))
  | .inr (.inl q) => if q.1 = 3 then .inl (zcA X 3, q.2.1, .inr (.inl fun _ => 0)) else .inl (zcA X q.1, q.2.1, .inl (nw_up q.2.2))
  | .inr (.inr q) => .inl (zcA X q.1, q.2.1, .inr (.inr (.inr (.inr (nw_uq al q.2.2)))))
def nw_W (X : zX) (al : Nat → Nat) (cs : List nw_C) : va_W := cs.mapIdx fun i c => (al i, nw_e X al c)
theorem nw_at (X : zX) (al : Nat → Nat) (cs : List nw_C) (i : Nat) : (nw_W X al cs)[i]? = (cs[i]?).map fun c => (al i, nw_e X al c) := by
  rw [nw_W, List.getElem?_mapIdx]
theorem nw_len (X : zX) (al : Nat → Nat) (cs : List nw_C) : (nw_W X al cs).length = cs.length := by rw [nw_W, List.length_mapIdx]
/-- what names a cell names one of these -/
def nw_v (n : Nat) : zAV → Bool
  | .inr (.inr (.inl q)) => Nat.blt q.2 n
  | _ => true
def nw_k (n : Nat) : nw_C → Bool
  | .inl q => q.2.all (nw_v n)
  | .inr (.inl _) => true
  | .inr (.inr q) => q.2.2.all fun r => Nat.blt r.2 n
def nw_o (cs : List nw_C) : Prop := ∀ c ∈ cs, nw_k cs.length c = true
theorem nw_blt {a b : Nat} (h : Nat.blt a b = true) : a < b := Nat.le_of_ble_eq_true h
theorem nw_v_le {n m : Nat} (h : n ≤ m) {v : zAV} (hv : nw_v n v = true) : nw_v m v = true := by
  rcases v with x | x | q | u
  · rfl
  · rfl
  · exact Nat.ble_eq_true_of_le (Nat.le_trans (nw_blt hv) h)
  · rfl
theorem nw_k_le {n m : Nat} (h : n ≤ m) {c : nw_C} (hc : nw_k n c = true) : nw_k m c = true := by
  rcases c with q | q | q
  · exact List.all_eq_true.mpr fun v hv => nw_v_le h (List.all_eq_true.mp hc v hv)
  · rfl
  · exact List.all_eq_true.mpr fun r hr => Nat.ble_eq_true_of_le (Nat.le_trans (nw_blt (List.all_eq_true.mp hc r hr)) h)
theorem nw_cV {al al' : Nat → Nat} {n : Nat} (h : ∀ i, i < n → al' i = al i) {v : zAV} (hv : nw_v n v = true) : cV (nw_ad al') v = cV (nw_ad al) v := by
  rcases v with x | x | q | u
  · rfl
  · rfl
  · exact congrArg Value.ref (h q.2 (nw_blt hv))
  · rfl
theorem nw_uq_al {al al' : Nat → Nat} {n : Nat} (h : ∀ i, i < n → al' i = al i) : ∀ (l : List (Nat × Nat)), (l.all fun r => Nat.blt r.2 n) = true → nw_uq al' l = nw_uq al l
  | [], _ => rfl
  | q :: t, hl => by
    rw [List.all_cons, Bool.and_eq_true] at hl
    funext j
    rw [nw_uq, nw_uq, nw_uq_al h t hl.2, h q.2 (nw_blt hl.1)]
theorem nw_e_al {X : zX} {al al' : Nat → Nat} {n : Nat} (h : ∀ i, i < n → al' i = al i) {c : nw_C} (hc : nw_k n c = true) : nw_e X al' c = nw_e X al c := by
  rcases c with q | q | q
  · have : q.2.map (cV (nw_ad al')) = q.2.map (cV (nw_ad al)) := List.map_congr_left fun v hv => nw_cV h (List.all_eq_true.mp hc v hv)
    rw [nw_e, nw_e, this]
  · rfl
  · rw [nw_e, nw_e, nw_uq_al h _ hc]
/-- one cell more -/
theorem nw_push {X : zX} {al : Nat → Nat} {cs : List nw_C} (ho : nw_o cs) (c0 : nw_C) (q : Nat) : nw_W X (fun i => if i = cs.length then q else al i) (cs ++ [c0]) = nw_W X al cs ++ [(q, nw_e X (fun i => if i = cs.length then q else al i) c0)] := by
  refine List.ext_getElem? (fun i => ?_)
  rw [nw_at, List.getElem?_append, List.getElem?_append, nw_len]
  by_cases hi : i < cs.length
  · rw [if_pos hi, if_pos hi, nw_at, List.getElem?_eq_getElem hi, Option.map_some, Option.map_some, if_neg (by omega)]
    rw [nw_e_al (n := cs.length) (al := al) (fun j hj => if_neg (by omega)) (ho _ (List.getElem_mem hi))]
  · rw [if_neg hi, if_neg hi]
    by_cases h2 : i = cs.length
    · subst h2
      rw [Nat.sub_self]
      simp
    · rw [List.getElem?_eq_none (by simp; omega), List.getElem?_eq_none (by simp; omega)]
      rfl
theorem nw_o_push {cs : List nw_C} (ho : nw_o cs) {c0 : nw_C} (h : nw_k (cs.length + 1) c0 = true) : nw_o (cs ++ [c0]) := by
  intro c hc
  rw [List.length_append, List.length_singleton]
  rcases List.mem_append.mp hc with h1 | h1
  · exact nw_k_le (Nat.le_succ _) (ho c h1)
  · rw [List.mem_singleton.mp h1]; exact h
theorem nw_set {X : zX} {al : Nat → Nat} {cs : List nw_C} {i : Nat} (c1 : nw_C) : nw_W X al (cs.set i c1) = (nw_W X al cs).set i (al i, nw_e X al c1) := by
  refine List.ext_getElem? (fun j => ?_)
  rw [nw_at, List.getElem?_set, List.getElem?_set, nw_len]
  by_cases e : i = j
  · subst e
    rw [if_pos rfl, if_pos rfl]
    by_cases hi : i < cs.length
    · rw [if_pos hi, if_pos hi]; rfl
    · rw [if_neg hi, if_neg hi]; rfl
  · rw [if_neg e, if_neg e, nw_at]
theorem nw_o_set {cs : List nw_C} (ho : nw_o cs) {i : Nat} {c1 : nw_C} (h : nw_k cs.length c1 = true) : nw_o (cs.set i c1) := by
  intro c hc
  rw [List.length_set]
  rcases List.mem_or_eq_of_mem_set hc with h1 | h1
  · exact ho c h1
  · rw [h1]; exact h
theorem nw_zls {al al' : Nat → Nat} {ls : Array Slot} {n N : Nat} {L : List zAV} (h : ∀ i, i < N → al' i = al i) (hL : L.all (nw_v N) = true) (hl : zls (nw_ad al) ls n L) : zls (nw_ad al') ls n L :=
  ⟨hl.1, hl.2.1, hl.2.2.1, fun i v hv hu => by rw [nw_cV h (List.all_eq_true.mp hL v (List.mem_of_getElem? hv))]; exact hl.2.2.2 i v hv hu⟩
theorem nw_map {al al' : Nat → Nat} {N : Nat} {L : List zAV} (h : ∀ i, i < N → al' i = al i) (hL : L.all (nw_v N) = true) : L.map (cV (nw_ad al')) = L.map (cV (nw_ad al)) := List.map_congr_left fun v hv => nw_cV h (List.all_eq_true.mp hL v hv)
def nw_def : FieldType → zAV
  | .object _ => vU
  | .array _ => vU
  | _ => vI 0
def nw_fit : FieldType → zAV → Bool
  | .int, .inl _ => true
  | .object _, .inr (.inr (.inl _)) => true
  | .array _, .inr (.inr (.inl _)) => true
  | _, _ => false
theorem nw_fits {ty : FieldType} {v : zAV} (ad : Nat → Nat → Nat) (h : nw_fit ty v = true) : narrow ty (cV ad v) = cV ad v ∧ fits ty (cV ad v) = true := by
  cases ty <;> rcases v with x | x | q | u <;> first | exact ⟨rfl, rfl⟩ | cases h
/-- a row: where, what, two numbers, a whole number, words' numbers -/
abbrev nw_r : Type := Nat × Nat × Nat × Nat × Int × List Nat
def nw_find (t : Nat) : List nw_r → List nw_r
  | [] => []
  | r :: es => if r.1 = t then r :: es else nw_find t es
def nw_pc : List nw_r → Nat
  | [] => 0
  | r :: _ => r.1
