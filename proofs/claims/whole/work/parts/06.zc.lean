/-! fields, arrays, calls, ends -/
theorem zcls_at : ∀ k, k < 12 → zcls[k]? = some (zcl k)
  | 0, _ => rfl
  | 1, _ => rfl
  | 2, _ => rfl
  | 3, _ => rfl
  | 4, _ => rfl
  | 5, _ => rfl
  | 6, _ => rfl
  | 7, _ => rfl
  | 8, _ => rfl
  | 9, _ => rfl
  | 10, _ => rfl
  | 11, _ => rfl
  | n + 12, h => absurd h (by omega)
def zcok (k : Nat) : Bool := ((u_ws (zcl k).1 (zcl k).2.1 (zcl k).2.2).all fun w => (lw_good).contains w) && (List.range (zcl k).2.2).all fun j => decide (parseFieldDescriptor ((zcl k).2.1 j).2.2.1 = some (zcty k j)) && (List.range (zcl k).2.2).all fun i => decide (i = j) || decide (((zcl k).2.1 i).2.1 ≠ ((zcl k).2.1 j).2.1)
set_option maxRecDepth 100000 in
theorem zcok_all : (List.range 12).all zcok = true := by decide +kernel
theorem zcok_at {k : Nat} (h : k < 12) : (∀ w ∈ u_ws (zcl k).1 (zcl k).2.1 (zcl k).2.2, w ∈ lw_good) ∧ (∀ j, j < (zcl k).2.2 → parseFieldDescriptor ((zcl k).2.1 j).2.2.1 = some (zcty k j)) ∧ (∀ a, a < (zcl k).2.2 → ∀ b, b < (zcl k).2.2 → a ≠ b → ((zcl k).2.1 a).2.1 ≠ ((zcl k).2.1 b).2.1) := by
  have h1 := List.all_eq_true.mp zcok_all k (List.mem_range.mpr h)
  unfold zcok at h1
  rw [Bool.and_eq_true] at h1
  obtain ⟨h2, h3⟩ := h1
  refine ⟨fun w hw => ?_, fun j hj => ?_, fun a ha b hb hab => ?_⟩
  · simpa using List.all_eq_true.mp h2 w hw
  · have h4 := List.all_eq_true.mp h3 j (List.mem_range.mpr hj)
    rw [Bool.and_eq_true, decide_eq_true_eq] at h4
    exact h4.1
  · have h4 := List.all_eq_true.mp h3 b (List.mem_range.mpr hb)
    rw [Bool.and_eq_true, decide_eq_true_eq] at h4
    have h5 := List.all_eq_true.mp h4.2 a (List.mem_range.mpr ha)
    rw [Bool.or_eq_true, decide_eq_true_eq, decide_eq_true_eq] at h5
    exact h5.resolve_left hab
