/-! the machine, a row at a time -/
section
variable {f y pc a b : Nat} {z : Int} {w : List Nat} {es : List nw_r} {cs : List nw_C} {L st : List zAV} {kc ks : Nat}
theorem nrun_0 : nrun (f + 1) y ((pc, 0, a, b, z, w) :: es) cs L st kc ks = (zvR (zgt L a) fun k i => nrun f y es cs L (vR k i :: st) kc ks) := rfl
theorem nrun_1 : nrun (f + 1) y ((pc, 1, a, b, z, w) :: es) cs L st kc ks = (zvI (zgt L a) fun x => nrun f y es cs L (vI x :: st) kc ks) := rfl
theorem nrun_2 : nrun (f + 1) y ((pc, 2, a, b, z, w) :: es) cs L st kc ks = (zpI st fun x t => nrun f y es cs (zs1 L a (vI x)) t kc ks) := rfl
theorem nrun_3 : nrun (f + 1) y ((pc, 3, a, b, z, w) :: es) cs L st kc ks = (nrun f y es cs L (vI (Int32.ofInt z) :: st) kc ks) := rfl
theorem nrun_4 : nrun (f + 1) y ((pc, 4, a, b, z, w) :: es) cs L st kc ks = (zp1 st fun v t => gd (zc1 v) (nrun f y es cs L (v :: v :: t) kc ks)) := rfl
theorem nrun_5 : nrun (f + 1) y ((pc, 5, a, b, z, w) :: es) cs L st kc ks = (gd (L.all (nw_v cs.length) && st.all (nw_v cs.length)) (nrun f y es (cs ++ [.inl (b, nda b)]) L (vR 0 cs.length :: st) (kc + 1) (ks + (zcl b).2.2))) := rfl
theorem nrun_6 : nrun (f + 1) y ((pc, 6, a, b, z, w) :: es) cs L st kc ks = (zpI st fun x t => gd (L.all (nw_v cs.length) && t.all (nw_v cs.length) && decide (¬ x < 0) && Nat.ble x.toNatClampNeg 100000) (nrun f y es (cs ++ [.inr (.inl (a, x.toNatClampNeg, []))]) L (vR 0 cs.length :: t) (kc + 1) (ks + x.toNatClampNeg))) := rfl
theorem nrun_7 : nrun (f + 1) y ((pc, 7, a, b, z, w) :: es) cs L st kc ks = (zpI st fun x t => gd (L.all (nw_v cs.length) && t.all (nw_v cs.length) && decide (¬ x < 0) && Nat.ble x.toNatClampNeg 100000) (nrun f y es (cs ++ [.inr (.inr (b, x.toNatClampNeg, []))]) L (vR 0 cs.length :: t) (kc + 1) (ks + x.toNatClampNeg))) := rfl
theorem nrun_8 : nrun (f + 1) y ((pc, 8, a, b, z, w) :: es) cs L st kc ks = (zpR st fun _ _ t => gd t.isEmpty (nrun f y es cs L t kc ks)) := rfl
theorem nrun_9 : nrun (f + 1) y ((pc, 9, a, b, z, w) :: es) cs L st kc ks = (gd (L.all (nw_v cs.length) && st.all (nw_v cs.length) && Nat.ble (zcs (st.drop (nP b + 1))) 8 && nhd (st.take (nP b + 1)).reverse (nP b)) (match nrun f b (nT b) cs (zloc (st.take (nP b + 1)).reverse (nL b)) [] 0 0 with
      | some q => nrun f y es q.1 L (st.drop (nP b + 1)) (kc + q.2.1) (ks + q.2.2)
      | none => none)) := rfl
theorem nrun_10 : nrun (f + 1) y ((pc, 10, a, b, z, w) :: es) cs L st kc ks = (zp1 st fun v t => zpR t fun _ i t => match cs[i]? with
      | some (.inl q) => gd (Nat.beq q.1 y && nw_v cs.length v && nw_fit (zcty y b) v && Nat.blt b q.2.length) (nrun f y es (cs.set i (.inl (q.1, q.2.set b v))) L t kc ks)
      | _ => none) := rfl
theorem nrun_11 : nrun (f + 1) y ((pc, 11, a, b, z, w) :: es) cs L st kc ks = (zpR st fun _ i t => match cs[i]? with
      | some (.inl q) => gd (Nat.beq q.1 y) (match q.2[b]? with
        | some v => nrun f y es cs L (v :: t) kc ks
        | none => none)
      | _ => none) := rfl
theorem nrun_12 : nrun (f + 1) y ((pc, 12, a, b, z, w) :: es) cs L st kc ks = (zpI st fun x t => zpI t fun j t => zpR t fun _ i t => match cs[i]? with
      | some (.inr (.inl q)) => gd (Nat.beq q.1 0 && decide (¬ j < 0) && Nat.blt j.toNatClampNeg q.2.1) (nrun f y es (cs.set i (.inr (.inl (q.1, q.2.1, (j.toNatClampNeg, x) :: q.2.2)))) L t kc ks)
      | _ => none) := rfl
theorem nrun_13 : nrun (f + 1) y ((pc, 13, a, b, z, w) :: es) cs L st kc ks = (zpR st fun _ v t => zpI t fun j t => zpR t fun _ i t => match cs[i]?, cs[v]? with
      | some (.inr (.inr q)), some (.inl u) => gd (Nat.blt u.1 12 && decide (tyF q.1 = .object (zcl u.1).1) && Nat.blt q.1 7 && decide (¬ j < 0) && Nat.blt j.toNatClampNeg q.2.1 && Nat.blt v cs.length) (nrun f y es (cs.set i (.inr (.inr (q.1, q.2.1, (j.toNatClampNeg, v) :: q.2.2)))) L t kc ks)
      | _, _ => none) := rfl
theorem nrun_14 : nrun (f + 1) y ((pc, 14, a, b, z, w) :: es) cs L st kc ks = (zvI (zgt L a) fun x => nrun f y es cs (zs1 L a (vI (x + Int32.ofInt z))) st kc ks) := rfl
theorem nrun_15 : nrun (f + 1) y ((pc, 15, a, b, z, w) :: es) cs L st kc ks = (zpI st fun x2 t => zpI t fun x1 t => if x1 < x2 then nrun f y es cs L t kc ks else nrun f y (nw_find a (nT y)) cs L t kc ks) := rfl
theorem nrun_16 : nrun (f + 1) y ((pc, 16, a, b, z, w) :: es) cs L st kc ks = (nrun f y (nw_find a (nT y)) cs L st kc ks) := rfl
theorem nrun_17 : nrun (f + 1) y ((pc, 17, a, b, z, w) :: es) cs L st kc ks = (gd st.isEmpty (some (cs, kc, ks))) := rfl
theorem nrun_18 : nrun (f + 1) y ((pc, 18, a, b, z, w) :: es) cs L st kc ks = (gd (L.all (nw_v cs.length) && st.all (nw_v cs.length) && Nat.ble (zcs (st.drop (nP b + 1))) 8 && nhd (st.take (nP b + 1)).reverse (nP b)) (match nrun f b (nT b) cs (zloc (st.take (nP b + 1)).reverse (nL b)) [] 0 0 with
      | some q => nrun f y es q.1 L (st.drop (nP b + 1)) (kc + q.2.1) (ks + q.2.2)
      | none => none)) := rfl
theorem nrun_19 : nrun (f + 1) y ((pc, 19, a, b, z, w) :: es) cs L st kc ks = (zpR st fun k i t => nrun f y es cs (zs1 L a (vR k i)) t kc ks) := rfl
theorem nrun_nil : nrun f y [] cs L st kc ks = none := by cases f <;> rfl
end
theorem nand2 {a b : Bool} (h : (a && b) = true) : a = true ∧ b = true := by rwa [Bool.and_eq_true] at h
theorem nfit_v {n : Nat} {q : Nat × List zAV} {b : Nat} {v : zAV} (hq : nw_k n (.inl q) = true) (hv : nw_v n v = true) : nw_k n (.inl (q.1, q.2.set b v)) = true := List.all_eq_true.mpr fun x hx => by
  rcases List.mem_or_eq_of_mem_set hx with h | h
  · exact List.all_eq_true.mp hq x h
  · rw [h]; exact hv
theorem nda_k (n b : Nat) : nw_k n (.inl (b, nda b)) = true := List.all_eq_true.mpr fun x hx => by
  obtain ⟨j, -, rfl⟩ := List.mem_map.mp hx
  unfold nw_def
  split <;> rfl
def nmo (cs cs' : List nw_C) (kc ks K S : Nat) : Prop := kc ≤ K ∧ ks ≤ S ∧ cs.length ≤ cs'.length ∧ (nw_o cs → nw_o cs')
theorem nmo_tr {cs c1 cs' : List nw_C} {kc ks k1 s1 K S : Nat} (h : nmo cs c1 kc ks k1 s1) (h2 : nmo c1 cs' k1 s1 K S) : nmo cs cs' kc ks K S := ⟨Nat.le_trans h.1 h2.1, Nat.le_trans h.2.1 h2.2.1, Nat.le_trans h.2.2.1 h2.2.2.1, fun o => h2.2.2.2 (h.2.2.2 o)⟩
theorem nmo_push {cs : List nw_C} {c0 : nw_C} {kc ks n : Nat} (h : nw_k (cs.length + 1) c0 = true) : nmo cs (cs ++ [c0]) kc ks (kc + 1) (ks + n) := ⟨by omega, by omega, by simp, fun o => nw_o_push o h⟩
theorem nmo_set {cs : List nw_C} {c0 c1 : nw_C} {i kc ks : Nat} (hi : cs[i]? = some c0) (h : nw_k cs.length c0 = true → nw_k cs.length c1 = true) : nmo cs (cs.set i c1) kc ks kc ks := ⟨Nat.le_refl _, Nat.le_refl _, by simp, fun o => nw_o_set o (h (o _ (List.mem_of_getElem? hi)))⟩
theorem nrun_mono : ∀ (f y : Nat) (es : List nw_r) (cs : List nw_C) (L st : List zAV) (kc ks : Nat) (cs' : List nw_C) (K S : Nat), nrun f y es cs L st kc ks = some (cs', K, S) → nmo cs cs' kc ks K S
  | 0, _, _, _, _, _, _, _, _, _, _, h => by cases h
  | f + 1, y, [], cs, L, st, kc, ks, cs', K, S, h => by cases h
  | f + 1, y, (pc, o, a, b, z, w) :: es, cs, L, st, kc, ks, cs', K, S, h => by
    have IH := nrun_mono f
    match o, h with
    | 0, h =>
      rw [nrun_0] at h
      obtain ⟨k, i, -, h1⟩ := zvR_some h
      exact IH _ _ _ _ _ _ _ _ _ _ h1
    | 1, h =>
      rw [nrun_1] at h
      obtain ⟨x, -, h1⟩ := zvI_some h
      exact IH _ _ _ _ _ _ _ _ _ _ h1
    | 2, h =>
      rw [nrun_2] at h
      obtain ⟨x, t, -, h1⟩ := zpI_some h
      exact IH _ _ _ _ _ _ _ _ _ _ h1
    | 3, h =>
      rw [nrun_3] at h
      exact IH _ _ _ _ _ _ _ _ _ _ h
    | 4, h =>
      rw [nrun_4] at h
      obtain ⟨v, t, -, h1⟩ := zp1_some h
      exact IH _ _ _ _ _ _ _ _ _ _ (gd_some h1).2
    | 5, h =>
      rw [nrun_5] at h
      exact nmo_tr (nmo_push (nda_k _ _)) (IH _ _ _ _ _ _ _ _ _ _ (gd_some h).2)
    | 6, h =>
      rw [nrun_6] at h
      obtain ⟨x, t, -, h1⟩ := zpI_some h
      exact nmo_tr (nmo_push rfl) (IH _ _ _ _ _ _ _ _ _ _ (gd_some h1).2)
    | 7, h =>
      rw [nrun_7] at h
      obtain ⟨x, t, -, h1⟩ := zpI_some h
      exact nmo_tr (nmo_push rfl) (IH _ _ _ _ _ _ _ _ _ _ (gd_some h1).2)
    | 8, h =>
      rw [nrun_8] at h
      obtain ⟨k, i, t, -, h1⟩ := zpR_some h
      exact IH _ _ _ _ _ _ _ _ _ _ (gd_some h1).2
    | 9, h =>
      rw [nrun_9] at h
      have h1 := (gd_some h).2
      split at h1
      · rename_i q hq
        have h2 := IH _ _ _ _ _ _ _ _ _ _ hq
        exact nmo_tr ⟨Nat.le_add_right _ _, Nat.le_add_right _ _, h2.2.2⟩ (IH _ _ _ _ _ _ _ _ _ _ h1)
      · cases h1
    | 10, h =>
      rw [nrun_10] at h
      obtain ⟨v, t, -, h1⟩ := zp1_some h
      obtain ⟨k, i, t, -, h2⟩ := zpR_some h1
      split at h2
      · rename_i q hq
        obtain ⟨hc, h3⟩ := gd_some h2
        exact nmo_tr (nmo_set hq (fun o => nfit_v o (nand2 (nand2 (nand2 hc).1).1).2)) (IH _ _ _ _ _ _ _ _ _ _ h3)
      · cases h2
    | 11, h =>
      rw [nrun_11] at h
      obtain ⟨k, i, t, -, h2⟩ := zpR_some h
      split at h2
      · have h3 := (gd_some h2).2
        split at h3
        · exact IH _ _ _ _ _ _ _ _ _ _ h3
        · cases h3
      · cases h2
    | 12, h =>
      rw [nrun_12] at h
      obtain ⟨x, t, -, h1⟩ := zpI_some h
      obtain ⟨j, t, -, h1⟩ := zpI_some h1
      obtain ⟨k, i, t, -, h2⟩ := zpR_some h1
      split at h2
      · rename_i q hq
        exact nmo_tr (nmo_set hq (fun o => rfl)) (IH _ _ _ _ _ _ _ _ _ _ (gd_some h2).2)
      · cases h2
    | 13, h =>
      rw [nrun_13] at h
      obtain ⟨k, v, t, -, h1⟩ := zpR_some h
      obtain ⟨j, t, -, h1⟩ := zpI_some h1
      obtain ⟨k, i, t, -, h2⟩ := zpR_some h1
      split at h2
      · rename_i q u hq hu
        obtain ⟨hc, h3⟩ := gd_some h2
        refine nmo_tr (nmo_set hq (fun o => ?_)) (IH _ _ _ _ _ _ _ _ _ _ h3)
        refine List.all_eq_true.mpr fun x hx => ?_
        rcases List.mem_cons.mp hx with rfl | hx
        · exact (nand2 hc).2
        · exact List.all_eq_true.mp o x hx
      · cases h2
    | 14, h =>
      rw [nrun_14] at h
      obtain ⟨x, -, h1⟩ := zvI_some h
      exact IH _ _ _ _ _ _ _ _ _ _ h1
    | 15, h =>
      rw [nrun_15] at h
      obtain ⟨x, t, -, h1⟩ := zpI_some h
      obtain ⟨x1, t, -, h1⟩ := zpI_some h1
      split at h1
      · exact IH _ _ _ _ _ _ _ _ _ _ h1
      · exact IH _ _ _ _ _ _ _ _ _ _ h1
    | 16, h =>
      rw [nrun_16] at h
      exact IH _ _ _ _ _ _ _ _ _ _ h
    | 17, h =>
      rw [nrun_17] at h
      have h1 := (gd_some h).2
      cases h1
      exact ⟨Nat.le_refl _, Nat.le_refl _, Nat.le_refl _, fun o => o⟩
    | 18, h =>
      rw [nrun_18] at h
      have h1 := (gd_some h).2
      split at h1
      · rename_i q hq
        have h2 := IH _ _ _ _ _ _ _ _ _ _ hq
        exact nmo_tr ⟨Nat.le_add_right _ _, Nat.le_add_right _ _, h2.2.2⟩ (IH _ _ _ _ _ _ _ _ _ _ h1)
      · cases h1
    | 19, h =>
      rw [nrun_19] at h
      obtain ⟨k, i, t, -, h1⟩ := zpR_some h
      exact IH _ _ _ _ _ _ _ _ _ _ h1
    | n + 20, h => cases h
