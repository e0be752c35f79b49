theorem nmod4 {a : Nat} (h : Nat.blt a 4 = true) : a % 4 = a := Nat.mod_eq_of_lt (nw_blt h)
theorem nw_has (X : zX) {al : Nat → Nat} {cs : List nw_C} {i : Nat} {c0 : nw_C} (h : cs[i]? = some c0) : (nw_W X al cs)[i]? = some (al i, nw_e X al c0) := by rw [nw_at, h]; rfl
theorem nda_def (al : Nat → Nat) (ty : FieldType) : cV (nw_ad al) (nw_def ty) = cV (nw_ad fun _ => 0) (nw_def ty) := by cases ty <;> rfl
theorem nda_at {y j : Nat} (hy : y < 12) (al : Nat → Nat) (h : j < zfN y) : defaultValue (zcty y j) = vp_V ((nda y).map (cV (nw_ad al))) j := by
  have h1 := (nch_at y hy).2.2
  unfold ncl at h1
  have h2 := of_decide_eq_true (nand2 h1).2
  have h3 := congrArg (fun l => l[j]?) h2
  simp only [List.getElem?_map, List.getElem?_range h, Option.map_some] at h3
  have h4 := Option.some.inj h3
  rw [vp_V, nda, List.map_map, List.getD_eq_getElem?_getD, List.getElem?_map, List.getElem?_range h]
  exact (h4.symm.trans (nda_def al _).symm)
section
variable {X : zX} {base y : Nat} {cs' : List nw_C} {K S pc a b : Nat} {z : Int} {w : List Nat} {es : List nw_r} {cs : List nw_C} {L st : List zAV} {kc ks : Nat}
theorem nG_aload {k i : Nat} (hk : nok y (pc, 0, a, b, z, w) = true) (hp : nw_pc es = pc + 1) (e : zgt L a = vR k i) (IH : nG X base y cs' K S es cs L (vR k i :: st) kc ks) : nG X base y cs' K S ((pc, 0, a, b, z, w) :: es) cs L st kc ks := by
  obtain ⟨hd, hw⟩ := nok_dec hk
  refine IH.pure (fun al p e9 s mi args below meth c H locs ls Q hC hA kk => ?_)
  rw [hp] at kk
  exact lv_aload_n hC.1 hC.2.1 hd (nmod4 hw) (zls_ld hA.1 e (vR_ne k i)) kk
theorem nG_iload {x : Int32} (hk : nok y (pc, 1, a, b, z, w) = true) (hp : nw_pc es = pc + 1) (e : zgt L a = vI x) (IH : nG X base y cs' K S es cs L (vI x :: st) kc ks) : nG X base y cs' K S ((pc, 1, a, b, z, w) :: es) cs L st kc ks := by
  obtain ⟨hd, hw⟩ := nok_dec hk
  refine IH.pure (fun al p e9 s mi args below meth c H locs ls Q hC hA kk => ?_)
  rw [hp] at kk
  exact lv_iload_n hC.1 hC.2.1 hd (nmod4 hw) (zls_ld hA.1 e (vI_ne x)) kk
theorem nG_istore {x : Int32} (hk : nok y (pc, 2, a, b, z, w) = true) (hp : nw_pc es = pc + 1) (IH : nG X base y cs' K S es cs (zs1 L a (vI x)) st kc ks) : nG X base y cs' K S ((pc, 2, a, b, z, w) :: es) cs L (vI x :: st) kc ks := by
  obtain ⟨hd, hw⟩ := nok_dec hk
  have hw := nand2 hw
  refine IH.put (Nat.le_refl _) (fun o => o) (fun al p e9 s mi args below meth c H locs ls Q hC hA kk => ?_)
  rw [hp] at kk
  exact lv_istore_n hC.1 hC.2.1 hd (nmod4 hw.2) (zls_has hA.1) (nw_blt hw.1) rfl (fun ls1 h1 => kk H locs ls1 ⟨zls_s1 (v := vI x) hA.1.2.2.1 h1, hA.2⟩)
theorem nG_astore {k i : Nat} (hk : nok y (pc, 19, a, b, z, w) = true) (hp : nw_pc es = pc + 1) (IH : nG X base y cs' K S es cs (zs1 L a (vR k i)) st kc ks) : nG X base y cs' K S ((pc, 19, a, b, z, w) :: es) cs L (vR k i :: st) kc ks := by
  obtain ⟨hd, hw⟩ := nok_dec hk
  have hw := nand2 hw
  refine IH.put (Nat.le_refl _) (fun o => o) (fun al p e9 s mi args below meth c H locs ls Q hC hA kk => ?_)
  rw [hp] at kk
  exact lv_astore_n hC.1 hC.2.1 hd (nmod4 hw.2) (zls_has hA.1) (nw_blt hw.1) rfl (fun ls1 h1 => kk H locs ls1 ⟨zls_s1 (v := vR k i) hA.1.2.2.1 h1, hA.2⟩)
theorem nG_const (hk : nok y (pc, 3, a, b, z, w) = true) (hp : nw_pc es = pc + (nwI (pc, 3, a, b, z, w)).2) (IH : nG X base y cs' K S es cs L (vI (Int32.ofInt z) :: st) kc ks) : nG X base y cs' K S ((pc, 3, a, b, z, w) :: es) cs L st kc ks := by
  obtain ⟨hd, hw⟩ := nok_dec hk
  refine IH.pure (fun al p e9 s mi args below meth c H locs ls Q hC hA kk => ?_)
  rw [hp] at kk
  match a, hd, hw, kk with
  | 0, hd, hw, kk => exact lv_iconst hC.1 hC.2.1 hd rfl kk
  | 1, hd, hw, kk => exact lv_bipush hC.1 hC.2.1 hd (of_decide_eq_true hw) kk
  | n + 2, hd, hw, kk => exact lv_sipush hC.1 hC.2.1 hd (of_decide_eq_true hw) kk
theorem nG_dup {v : zAV} (hk : nok y (pc, 4, a, b, z, w) = true) (hp : nw_pc es = pc + 1) (hc : zc1 v = true) (IH : nG X base y cs' K S es cs L (v :: v :: st) kc ks) : nG X base y cs' K S ((pc, 4, a, b, z, w) :: es) cs L (v :: st) kc ks := by
  obtain ⟨hd, -⟩ := nok_dec hk
  refine IH.pure (fun al p e9 s mi args below meth c H locs ls Q hC hA kk => ?_)
  rw [hp] at kk
  exact lv_dup hC.1 hC.2.1 hd (cV_cat1 hc) kk
theorem nG_new (hk : nok y (pc, 5, a, b, z, w) = true) (hp : nw_pc es = pc + 3) (hL : L.all (nw_v cs.length) = true) (ht : st.all (nw_v cs.length) = true) (hK : kc + 1 ≤ K) (hS : ks + (zcl b).2.2 ≤ S) (IH : nG X base y cs' K S es (cs ++ [.inl (b, nda b)]) L (vR 0 cs.length :: st) (kc + 1) (ks + (zcl b).2.2)) : nG X base y cs' K S ((pc, 5, a, b, z, w) :: es) cs L st kc ks := by
  obtain ⟨hd, hw⟩ := nok_dec hk
  obtain ⟨hw, w3⟩ := nand2 hw
  obtain ⟨hw, w2⟩ := nand2 hw
  obtain ⟨hw, w1⟩ := nand2 hw
  have hb : b < 12 := nw_blt hw
  refine IH.push hL ht (nda_k _ _) (fun al p e9 s mi args below meth c H locs ls Q hC hA kk => ?_)
  rw [hp] at kk
  have hc := zcok_at hb
  exact va_new (c0 := c) (own := (nY y).cls) hC.1 hC.2.1 hC.2.2.2.2.2.1 hc.1 (zcty b) hc.2.1 hC.2.2.2.2.1 (hC.2.2.2.2.2.1 _ (zwd_in w1)) (hC.2.2.2.2.2.1 _ (zwd_in w2)) (hC.2.2.2.2.2.1 _ (zwd_in w3)) hC.2.2.2.2.2.2.2.2.1 hA.2.1 hA.2.2.1 hA.2.2.2 (fun q hq => Nat.le_trans hC.2.2.2.2.2.2.2.2.2.2 hq) (zcls_at b hb)
    (fun j hj => nda_at hb al hj) hK hS hd (fun q H1 hP1 hD1 hS1 => kk q H1 hP1 hD1 hS1)
theorem nty_at {t : Nat} (h : t < 4) : newarray.typeOf (nA t) = tyF t := by
  match t, h with
  | 0, _ => rfl
  | 1, _ => rfl
  | 2, _ => rfl
  | 3, _ => rfl
  | n + 4, h => omega
theorem nby_at {t N : Nat} (h : t < 4) (hN : N ≤ 100000) : N * componentBytes (tyF t) ≤ 536870912 := by
  match t, h with
  | 0, _ => exact Nat.le_trans (Nat.mul_le_mul_right _ hN) (by decide)
  | 1, _ => exact Nat.le_trans (Nat.mul_le_mul_right _ hN) (by decide)
  | 2, _ => exact Nat.le_trans (Nat.mul_le_mul_right _ hN) (by decide)
  | 3, _ => exact Nat.le_trans (Nat.mul_le_mul_right _ hN) (by decide)
  | n + 4, h => omega
def nap (t N : Nat) : vp_A := if t = 3 then (N, .inr (.inl fun _ => 0)) else (N, .inl (nw_up []))
theorem nap_cell {t N : Nat} (h : t < 4) (cA : ClassId) : vp_cell cA (nap t N) = arrV cA N (fun _ => defaultValue (tyF t)) := by
  match t, h with
  | 0, _ => rfl
  | 1, _ => rfl
  | 2, _ => rfl
  | 3, _ => rfl
  | n + 4, h => omega
theorem nap_e {al : Nat → Nat} {t N : Nat} (h : t < 4) : nw_e X al (.inr (.inl (t, N, []))) = .inl (zcA X t, nap t N) := by
  match t, h with
  | 0, _ => rfl
  | 1, _ => rfl
  | 2, _ => rfl
  | 3, _ => rfl
  | n + 4, h => omega
theorem nG_newa {x : Int32} (hk : nok y (pc, 6, a, b, z, w) = true) (hp : nw_pc es = pc + 2) (hL : L.all (nw_v cs.length) = true) (ht : st.all (nw_v cs.length) = true) (hx : ¬ x < 0) (hN : x.toNatClampNeg ≤ 100000) (hK : kc + 1 ≤ K) (hS : ks + x.toNatClampNeg ≤ S)
    (IH : nG X base y cs' K S es (cs ++ [.inr (.inl (a, x.toNatClampNeg, []))]) L (vR 0 cs.length :: st) (kc + 1) (ks + x.toNatClampNeg)) : nG X base y cs' K S ((pc, 6, a, b, z, w) :: es) cs L (vI x :: st) kc ks := by
  obtain ⟨hd, hw⟩ := nok_dec hk
  obtain ⟨hw, w1⟩ := nand2 hw
  have ha4 : a < 4 := nw_blt hw
  have hty := nty_at ha4
  refine IH.push hL ht rfl (fun al p e9 s mi args below meth c H locs ls Q hC hA kk => ?_)
  rw [hp] at kk
  refine va_newa (a0 := nap a x.toNatClampNeg) hC.1 hC.2.1 (by rw [hty]; exact hC.2.2.2.2.2.1 _ (zwd_in w1)) hty hC.2.2.2.2.2.2.2.2.1 hA.2.1 hA.2.2.1 hA.2.2.2 (fun q hq => Nat.le_trans hC.2.2.2.2.2.2.2.2.2.2 hq) (nap_cell ha4) hx rfl (nby_at ha4 hN) hK hS hd (fun q cA H1 hK1 hP1 hD1 hS1 => ?_)
  have e := nK_eq (show a < 7 by omega) hK1
  subst e
  rw [nap_e ha4] at kk
  exact kk q H1 hP1 hD1 hS1
theorem nqn_at {t : Nat} (h4 : 4 ≤ t) (h7 : t < 7) : tyF t = .object (nqN t) := by
  rcases (show t = 4 ∨ t = 5 ∨ t = 6 by omega) with rfl | rfl | rfl <;> rfl
theorem nG_newq {x : Int32} (hk : nok y (pc, 7, a, b, z, w) = true) (hp : nw_pc es = pc + 3) (hL : L.all (nw_v cs.length) = true) (ht : st.all (nw_v cs.length) = true) (hx : ¬ x < 0) (hN : x.toNatClampNeg ≤ 100000) (hK : kc + 1 ≤ K) (hS : ks + x.toNatClampNeg ≤ S)
    (IH : nG X base y cs' K S es (cs ++ [.inr (.inr (b, x.toNatClampNeg, []))]) L (vR 0 cs.length :: st) (kc + 1) (ks + x.toNatClampNeg)) : nG X base y cs' K S ((pc, 7, a, b, z, w) :: es) cs L (vI x :: st) kc ks := by
  obtain ⟨hd, hw⟩ := nok_dec hk
  obtain ⟨hw, w1⟩ := nand2 hw
  obtain ⟨hw, h7⟩ := nand2 hw
  have h7 : b < 7 := nw_blt h7
  have h4 : 4 ≤ b := nw_blt hw
  refine IH.push hL ht rfl (fun al p e9 s mi args below meth c H locs ls Q hC hA kk => ?_)
  rw [hp] at kk
  refine va_newq (own := (nY y).cls) (C := nqN b) hC.1 hC.2.1 hC.2.2.2.2.1 (hC.2.2.2.2.2.1 _ (zwd_in w1)) (hC.2.2.2.2.2.2.2.2.2.1.2 b h4 h7) hC.2.2.2.2.2.2.2.2.1 hA.2.1 hA.2.2.1 hA.2.2.2 (fun q hq => Nat.le_trans hC.2.2.2.2.2.2.2.2.2.2 hq) hx rfl (by omega) hK hS hd (fun q cA H1 hK1 hP1 hD1 hS1 => ?_)
  rw [← nqn_at h4 h7] at hK1
  have e := nK_eq h7 hK1
  subst e
  exact kk q H1 hP1 hD1 hS1
theorem nG_obj {k i : Nat} (hk : nok y (pc, 8, a, b, z, w) = true) (hp : nw_pc es = pc + 3) (IH : nG X base y cs' K S es cs L [] kc ks) : nG X base y cs' K S ((pc, 8, a, b, z, w) :: es) cs L [vR k i] kc ks := by
  obtain ⟨hd, hw⟩ := nok_dec hk
  obtain ⟨hw, w3⟩ := nand2 hw
  obtain ⟨hw, w2⟩ := nand2 hw
  obtain ⟨hw, w1⟩ := nand2 hw
  have h1 : 1 ≤ nd y := nw_blt hw
  refine IH.pure (fun al p e9 s mi args below meth c H locs ls Q hC hA kk => ?_)
  rw [hp] at kk
  exact W.objInit (rest := []) (a := al i) hC.1 hC.2.1 hC.2.2.2.2.1 (hC.2.2.2.2.2.1 _ (zwd_in w1)) (hC.2.2.2.2.2.1 _ (zwd_in w2)) (hC.2.2.2.2.2.1 _ (zwd_in w3)) rfl (hA.1.1.trans hC.2.2.1.symm) rfl hd h1 (by show 2 * 0 + 0 + 12 ≤ 30 * nd y; omega) kk
end
