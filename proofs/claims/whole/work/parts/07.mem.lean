/-! fields, arrays -/
theorem zent_o {X : zX} {σ : zH} {k i : Nat} (h : k < 12) : zent X σ k i = .inr (k, zfs X σ k i) := by rw [zent, if_pos h]
theorem aT_lo {k : Nat} (h : aT k < 9) : ¬ k < 12 ∧ k ≠ 200 := by
  refine ⟨fun hk => ?_, fun hk => ?_⟩
  · have := (show ∀ k, k < 12 → aT k = 9 by decide +kernel) k hk
    omega
  · rw [hk] at h
    exact absurd h (by decide +kernel)
theorem zent_i {X : zX} {σ : zH} {k i : Nat} (h : aT k < 3) : zent X σ k i = .inl (zcA X (aT k), aN k, .inl (σ.1 k i)) := by
  rw [zent, if_neg (aT_lo (by omega)).1, if_pos h]
theorem zent_l {X : zX} {σ : zH} {k i : Nat} (h : aT k = 3) : zent X σ k i = .inl (zcA X (aT k), aN k, .inr (.inl (σ.2 k i))) := by
  rw [zent, if_neg (aT_lo (by omega)).1, if_neg (by omega), if_pos h]
theorem zent_q {X : zX} {σ : zH} {k i : Nat} (h : 4 ≤ aT k) (h6 : aT k ≤ 6) : zent X σ k i = .inl (zcA X (aT k), aN k, .inr (.inr (.inr (.inr fun j => some (zad X (aK k) (aB k + j)))))) := by
  rw [zent, if_neg (aT_lo (by omega)).1, if_neg (by omega), if_neg (by omega)]
theorem zval_in {X : zX} {k i : Nat} (h : zval X (vR k i)) (hk : k ≠ 200) : (k, i) ∈ zdm X := h.resolve_right (fun q => hk q.1)
theorem zval_o {X : zX} {k i : Nat} (h : zval X (vR k i)) (hk : k < 12) : (k, i) ∈ zdm X := zval_in h (by omega)
theorem zfs_at {X : zX} {σ : zH} {k i j : Nat} (h : j < zfN k) : (zfs X σ k i)[j]? = some (cV (zad X) (zfv σ k i j)) := by
  simp [zfs, h]
theorem zclo_o {X : zX} (hX : zOK X) {k i j : Nat} (h : (k, i) ∈ zdm X) (hk : k < 12) (hj : j < zfN k) : (match fC k j with
    | (1, k', d) => (zdm X).contains (k', i + d)
    | (2, k', d) => (zdm X).contains (k', d)
    | (4, k', _) => (zdm X).contains (k', i)
    | (3, k', _) => (List.range (zcnt k')).all fun i => (zdm X).contains (k', i)
    | (0, _, _) => true
    | _ => false) = true := by
  have h1 := List.all_eq_true.mp hX.2 (k, i) h
  dsimp only at h1
  rw [if_pos hk] at h1
  exact List.all_eq_true.mp h1 j (List.mem_range.mpr hj)
theorem zclo_q {X : zX} (hX : zOK X) {k i j : Nat} (h : (k, i) ∈ zdm X) (ht : 4 ≤ aT k) (h6 : aT k ≤ 6) (hj : j < aN k) : (aK k, aB k + j) ∈ zdm X := by
  have h1 := List.all_eq_true.mp hX.2 (k, i) h
  dsimp only at h1
  rw [if_neg (aT_lo (by omega)).1, if_pos (Nat.ble_eq_true_of_le ht)] at h1
  exact zclo_mem (List.all_eq_true.mp h1 j (List.mem_range.mpr hj))
section
variable {ρ : Type} {X : zX} {m : Nat} {kr : zH → zAV → Option ρ} {pc : Nat} {σ : zH} {L st : List zAV} {r : ρ} {N : zH → List zAV → List zAV → Option ρ}
/-- the machine's getfield, whatever stands there -/
theorem zt_gf (hX : zOK X) {a b i z : Nat} {t : List zAV} (ha : a < 12) (hb : b < zfN a) (hw : Cond.fieldLink (mY m).cls z ((zcl a).2.1 b).1 ((zcl a).2.1 b).2.1 ((zcl a).2.1 b).2.2.1 ∈ lw_good) (hdg : decode (mB m) pc = .ok (.getfield z, 3))
    (hv2 : zval X (vR a i) → zval X (zfv σ a i b)) (IH : zGW X m kr (pc + 3) σ L (zfv σ a i b :: t) r) : zGW X m kr pc σ L (vR a i :: t) r := by
  refine IH.step (fun hv => zvs_app (zvs_L hv) (zvs_cons (hv2 (zvs_hd hv)) (zvs_st (zvs_tl hv)))) (fun hv p e9 s mi args below meth c H locs ls Q hC ha2 k => ?_)
  obtain ⟨q0, -, hq⟩ := zw_at (zval_o (zvs_hd hv) ha) σ
  rw [zent_o ha] at hq
  exact va_get hC.1 hC.2.1 hC.2.2.2.2.2.1 (zcok_at ha).1 hC.2.2.2.2.1 hC.2.2.2.2.2.2.2.1 ha2.2.1 q0 hq (zcls_at a ha) b hb (hC.2.2.2.2.2.1 _ hw) (fun _ h => h) (zfs_at hb) hdg (k H locs ls ha2)
theorem zt_getfield (hX : zOK X) {a b z : Nat} (ha : a < 12) (hb : b < zfN a) (hw : Cond.fieldLink (mY m).cls z ((zcl a).2.1 b).1 ((zcl a).2.1 b).2.1 ((zcl a).2.1 b).2.2.1 ∈ lw_good) (hdg : decode (mB m) pc = .ok (.getfield z, 3))
    (IH : ∀ σ L st r, N σ L st = some r → zGW X m kr (pc + 3) σ L st r)
    (h : (zpR st fun k i r => gd (k == a) (match fC a b with
        | (0, _, _) => N σ L (vI (σ.1 a i b) :: r)
        | (1, k', d) => N σ L (vR k' (i + d) :: r)
        | (2, k', d) => N σ L (vR k' d :: r)
        | (4, k', _) => N σ L (vR k' i :: r)
        | (3, k', _) => ix (σ.1 a i b) (zcnt k') fun q => N σ L (vR k' q :: r)
        | _ => none)) = some r) : zGW X m kr pc σ L st r := by
  obtain ⟨k, i, t, rfl, h1⟩ := zpR_some h
  obtain ⟨hk, h2⟩ := gd_some h1
  have hk : k = a := by simpa using hk
  subst hk
  rcases hf : fC k b with ⟨c1, c2, c3⟩
  rw [hf] at h2
  match c1, hf, h2 with
  | 0, hf, h2 =>
    have e : zfv σ k i b = vI (σ.1 k i b) := by rw [zfv, hf]; rfl
    exact zt_gf hX ha hb hw hdg (fun _ => by rw [e]; trivial) (by rw [e]; exact IH _ _ _ _ h2)
  | 1, hf, h2 =>
    have e : zfv σ k i b = vR c2 (i + c3) := by rw [zfv, hf]; rfl
    refine zt_gf hX ha hb hw hdg (fun hv => ?_) (by rw [e]; exact IH _ _ _ _ h2)
    have := zclo_o hX (zval_o hv ha) ha hb
    rw [hf] at this
    rw [e]; exact Or.inl (zclo_mem this)
  | 2, hf, h2 =>
    have e : zfv σ k i b = vR c2 c3 := by rw [zfv, hf]; rfl
    refine zt_gf hX ha hb hw hdg (fun hv => ?_) (by rw [e]; exact IH _ _ _ _ h2)
    have := zclo_o hX (zval_o hv ha) ha hb
    rw [hf] at this
    rw [e]; exact Or.inl (zclo_mem this)
  | 4, hf, h2 =>
    have e : zfv σ k i b = vR c2 i := by rw [zfv, hf]; rfl
    refine zt_gf hX ha hb hw hdg (fun hv => ?_) (by rw [e]; exact IH _ _ _ _ h2)
    have := zclo_o hX (zval_o hv ha) ha hb
    rw [hf] at this
    rw [e]; exact Or.inl (zclo_mem this)
  | 3, hf, h2 =>
    obtain ⟨hin, h3⟩ := ix_some h2
    unfold vp_in at hin
    rw [not_or] at hin
    have e : zfv σ k i b = vR c2 (σ.1 k i b).toNatClampNeg := by rw [zfv, hf]; exact if_neg hin.1
    refine zt_gf hX ha hb hw hdg (fun hv => ?_) (by rw [e]; exact IH _ _ _ _ h3)
    have := zclo_o hX (zval_o hv ha) ha hb
    rw [hf] at this
    rw [e]; exact Or.inl (zclo_mem (List.all_eq_true.mp this _ (List.mem_range.mpr (by omega))))
  | n + 5, hf, h2 => cases h2
theorem uI_at (σ : zH) (k i j : Nat) (x : Int32) : (uI σ k i j x).1 k i j = x := by simp [uI]
theorem uI_ne {σ : zH} {k i j k' i' j' : Nat} {x : Int32} (h : ¬ (k' = k ∧ i' = i ∧ j' = j)) : (uI σ k i j x).1 k' i' j' = σ.1 k' i' j' := by simp [uI, h]
theorem zfv_ne {σ : zH} {k i j k' i' j' : Nat} {x : Int32} (h : ¬ (k' = k ∧ i' = i ∧ j' = j)) : zfv (uI σ k i j x) k' i' j' = zfv σ k' i' j' := by
  unfold zfv
  rw [uI_ne h]
theorem zfs_ne {X : zX} {σ : zH} {k i j k' i' : Nat} {x : Int32} (h : ¬ (k' = k ∧ i' = i)) : zfs X (uI σ k i j x) k' i' = zfs X σ k' i' := by
  unfold zfs
  refine List.map_congr_left (fun n _ => ?_)
  rw [zfv_ne (fun q => h ⟨q.1, q.2.1⟩)]
theorem zent_ne {X : zX} {σ : zH} {k i j : Nat} {x : Int32} (k' i' : Nat) (h : ¬ (k' = k ∧ i' = i)) : zent X (uI σ k i j x) k' i' = zent X σ k' i' := by
  unfold zent
  have e1 : (uI σ k i j x).1 k' i' = σ.1 k' i' := funext fun n => uI_ne (fun q => h ⟨q.1, q.2.1⟩)
  rw [zfs_ne h, e1]
  rfl
theorem zfs_set {X : zX} {σ : zH} {k i j : Nat} {x : Int32} {v : zAV} (hv : zfv (uI σ k i j x) k i j = v) : zfs X (uI σ k i j x) k i = (zfs X σ k i).set j (cV (zad X) v) := by
  refine List.ext_getElem? (fun n => ?_)
  by_cases hn : n < zfN k
  · rw [zfs_at hn, List.getElem?_set]
    by_cases e : j = n
    · subst e
      rw [if_pos rfl, if_pos (by simpa [zfs] using hn), hv]
    · rw [if_neg e, zfs_at hn, zfv_ne (fun q => e q.2.2.symm)]
  · rw [List.getElem?_eq_none (by simpa [zfs] using hn), List.getElem?_eq_none (by simpa [zfs] using hn)]
/-- the machine's putfield -/
theorem zt_pf (hX : zOK X) {a b i z : Nat} {x : Int32} {v : zAV} {t : List zAV} (ha : a < 12) (hb : b < zfN a) (hfin : ((zcl a).2.1 b).2.2.2 = false) (hw : Cond.fieldLink (mY m).cls z ((zcl a).2.1 b).1 ((zcl a).2.1 b).2.1 ((zcl a).2.1 b).2.2.1 ∈ lw_good) (hdg : decode (mB m) pc = .ok (.putfield z, 3))
    (hn : narrow (zcty a b) (cV (zad X) v) = cV (zad X) v) (hfit : fits (zcty a b) (cV (zad X) v) = true) (hz : zval X v → zfv (uI σ a i b x) a i b = v) (IH : zGW X m kr (pc + 3) (uI σ a i b x) L t r) : zGW X m kr pc σ L (v :: vR a i :: t) r := by
  refine IH.step (fun hv => zvs_tl (zvs_tl hv)) (fun hv p e9 s mi args below meth c H locs ls Q hC ha2 k => ?_)
  obtain ⟨q0, hd0, hq⟩ := zw_at (zval_o (zvs_hd (zvs_tl hv)) ha) σ
  rw [zent_o ha] at hq
  have hc := zcok_at ha
  exact va_put (A := zA X) hC.1 hC.2.1 hC.2.2.2.2.2.1 hc.1 (zcty a) hc.2.1 hc.2.2 hC.2.2.2.2.1 hC.2.2.2.2.2.2.2.1 ha2.2.1 (zw_D hX σ) ha2.2.2 q0 hq (zcls_at a ha) b hb (hC.2.2.2.2.2.1 _ hw) (fun _ h => h) hfin (hc.2.1 b hb) hn hfit (by simpa [zfs] using hb) hdg
    (fun H1 locs1 hP1 _ hS1 => k H1 locs1 ls ⟨ha2.1, zw_set hX (e := .inr (a, (zfs X σ a i).set b (cV (zad X) v))) hd0 (by rw [zent_o ha, zfs_set (hz (zvs_hd hv))]) (fun k' i' h => zent_ne k' i' h) hP1, hS1⟩)
theorem zt_putfield (hX : zOK X) (hbd : ∀ q ∈ zdm X, q.2 < 2 ^ 31) {a b z : Nat} (ha : a < 12) (hb : b < zfN a) (hfin : ((zcl a).2.1 b).2.2.2 = false) (hw : Cond.fieldLink (mY m).cls z ((zcl a).2.1 b).1 ((zcl a).2.1 b).2.1 ((zcl a).2.1 b).2.2.1 ∈ lw_good) (hdg : decode (mB m) pc = .ok (.putfield z, 3))
    (hty : match fC a b with
        | (0, 0, _) => zcty a b = .int
        | (0, 1, _) => zcty a b = .boolean
        | (3, k', _) => k' ≠ 200 ∧ zcty a b = .object (zcl k').1
        | _ => False)
    (IH : ∀ σ L st r, N σ L st = some r → zGW X m kr (pc + 3) σ L st r)
    (h : (match fC a b with
        | (0, 0, _) => zpI st fun x r => zpR r fun k i r => gd (k == a) (N (uI σ a i b x) L r)
        | (0, 1, _) => zpI st fun x r => zpR r fun k i r => gd (k == a) (tv x (N (uI σ a i b x) L r))
        | (3, k', _) => zpR st fun k1 q r => zpR r fun k i r => gd (k == a && k1 == k') (N (uI σ a i b (Int32.ofNat q)) L r)
        | _ => none) = some r) : zGW X m kr pc σ L st r := by
  rcases hf : fC a b with ⟨c1, c2, c3⟩
  rw [hf] at h hty
  match c1, c2, hf, h, hty with
  | 0, 0, hf, h, hty =>
    obtain ⟨x, t, rfl, h1⟩ := zpI_some h
    obtain ⟨k, i, t, rfl, h2⟩ := zpR_some h1
    obtain ⟨hk, h3⟩ := gd_some h2
    have hk : k = a := by simpa using hk
    subst hk
    exact zt_pf hX ha hb hfin hw hdg (by rw [hty]; rfl) (by rw [hty]; rfl) (fun _ => by rw [zfv, hf]; exact congrArg Sum.inl (uI_at _ _ _ _ _)) (IH _ _ _ _ h3)
  | 0, 1, hf, h, hty =>
    obtain ⟨x, t, rfl, h1⟩ := zpI_some h
    obtain ⟨k, i, t, rfl, h2⟩ := zpR_some h1
    obtain ⟨hk, h3⟩ := gd_some h2
    obtain ⟨hx, h4⟩ := tv_some h3
    have hk : k = a := by simpa using hk
    subst hk
    refine zt_pf hX ha hb hfin hw hdg (by rw [hty]; rcases hx with rfl | rfl <;> rfl) (by rw [hty]; rcases hx with rfl | rfl <;> rfl) (fun _ => by rw [zfv, hf]; exact congrArg Sum.inl (uI_at _ _ _ _ _)) (IH _ _ _ _ h4)
  | 0, n + 2, hf, h, hty => cases h
  | 3, c2, hf, h, hty =>
    obtain ⟨k1, q, t, rfl, h1⟩ := zpR_some h
    obtain ⟨k, i, t, rfl, h2⟩ := zpR_some h1
    obtain ⟨hk, h3⟩ := gd_some h2
    rw [Bool.and_eq_true] at hk
    have hk1 : k = a := by simpa using hk.1
    have hk2 : k1 = c2 := by simpa using hk.2
    subst hk1
    subst hk2
    refine zt_pf hX ha hb hfin hw hdg (by rw [hty.2]; rfl) (by rw [hty.2]; rfl) (fun hv => ?_) (IH _ _ _ _ h3)
    have hq : q < 2 ^ 31 := hbd _ (zval_in hv hty.1)
    rw [zfv, hf]
    change (if (uI σ k i b (Int32.ofNat q)).1 k i b < 0 then vU else vR k1 ((uI σ k i b (Int32.ofNat q)).1 k i b).toNatClampNeg) = vR k1 q
    rw [uI_at]
    have e1 : (Int32.ofNat q).toNatClampNeg = q := nI_clamp hq
    have e2 : ¬ Int32.ofNat q < 0 := nI_pos hq
    rw [if_neg e2, e1]
  | 1, c2, hf, h, hty => cases h
  | 2, c2, hf, h, hty => cases h
  | n + 4, c2, hf, h, hty => cases h
theorem zt_iaload {k i : Nat} {x : Int32} {t : List zAV} (hk : aT k = 0) (hin : vp_in x (aN k)) (hdg : decode (mB m) pc = .ok (.iaload, 1)) (IH : zGW X m kr (pc + 1) σ L (vI (σ.1 k i x.toNatClampNeg) :: t) r) : zGW X m kr pc σ L (vI x :: vR k i :: t) r := by
  refine IH.step (fun hv => zvs_app (zvs_L hv) (zvs_cons trivial (zvs_st (zvs_tl (zvs_tl hv))))) (fun hv p e9 s mi args below meth c H locs ls Q hC ha2 kk => ?_)
  obtain ⟨q0, -, hq⟩ := zw_at (zval_in (zvs_hd (zvs_tl hv)) (aT_lo (by omega)).2) σ
  rw [zent_i (by omega)] at hq
  exact va_iald hC.1 hC.2.1 hC.2.2.2.2.2.2.2.1 ha2.2.1 q0 0 hq (by rw [hk]; exact ztys_at X (by omega)) hin hdg (kk H locs ls ha2)
theorem zt_baload {k i : Nat} {x : Int32} {t : List zAV} (hk : aT k = 1 ∨ aT k = 2) (hin : vp_in x (aN k)) (hdg : decode (mB m) pc = .ok (.baload, 1)) (IH : zGW X m kr (pc + 1) σ L (vI (σ.1 k i x.toNatClampNeg) :: t) r) : zGW X m kr pc σ L (vI x :: vR k i :: t) r := by
  refine IH.step (fun hv => zvs_app (zvs_L hv) (zvs_cons trivial (zvs_st (zvs_tl (zvs_tl hv))))) (fun hv p e9 s mi args below meth c H locs ls Q hC ha2 kk => ?_)
  obtain ⟨q0, -, hq⟩ := zw_at (zval_in (zvs_hd (zvs_tl hv)) (aT_lo (by omega)).2) σ
  rw [zent_i (by omega)] at hq
  rcases hk with hk | hk
  · exact va_bald hC.1 hC.2.1 hC.2.2.2.2.2.2.2.1 ha2.2.1 q0 1 hq (by rw [hk]; exact ztys_at X (by omega)) hin hdg (kk H locs ls ha2)
  · exact va_zald hC.1 hC.2.1 hC.2.2.2.2.2.2.2.1 ha2.2.1 q0 2 hq (by rw [hk]; exact ztys_at X (by omega)) hin hdg (kk H locs ls ha2)
theorem zt_laload {k i : Nat} {x : Int32} {t : List zAV} (hk : aT k = 3) (hin : vp_in x (aN k)) (hdg : decode (mB m) pc = .ok (.laload, 1)) (IH : zGW X m kr (pc + 1) σ L (vL (σ.2 k i x.toNatClampNeg) :: t) r) : zGW X m kr pc σ L (vI x :: vR k i :: t) r := by
  refine IH.step (fun hv => zvs_app (zvs_L hv) (zvs_cons trivial (zvs_st (zvs_tl (zvs_tl hv))))) (fun hv p e9 s mi args below meth c H locs ls Q hC ha2 kk => ?_)
  obtain ⟨q0, -, hq⟩ := zw_at (zval_in (zvs_hd (zvs_tl hv)) (aT_lo (by omega)).2) σ
  rw [zent_l hk] at hq
  exact va_lald hC.1 hC.2.1 hC.2.2.2.2.2.2.2.1 ha2.2.1 q0 3 hq (by rw [hk]; exact ztys_at X (by omega)) hin hdg (kk H locs ls ha2)
theorem tyF_q {t : Nat} (h : 4 ≤ t) (h6 : t ≤ 6) : ∃ C, tyF t = .object C := by
  rcases (show t = 4 ∨ t = 5 ∨ t = 6 by omega) with rfl | rfl | rfl
  · exact ⟨_, rfl⟩
  · exact ⟨_, rfl⟩
  · exact ⟨_, rfl⟩
theorem zt_aaload (hX : zOK X) {k i : Nat} {x : Int32} {t : List zAV} (hk : 4 ≤ aT k) (hk6 : aT k ≤ 6) (hin : vp_in x (aN k)) (hdg : decode (mB m) pc = .ok (.aaload, 1)) (IH : zGW X m kr (pc + 1) σ L (vR (aK k) (aB k + x.toNatClampNeg) :: t) r) : zGW X m kr pc σ L (vI x :: vR k i :: t) r := by
  have hin2 : ¬ (x < 0 ∨ aN k ≤ x.toNatClampNeg) := hin
  rw [not_or] at hin2
  refine IH.step (fun hv => zvs_app (zvs_L hv) (zvs_cons (Or.inl (zclo_q hX (zval_in (zvs_hd (zvs_tl hv)) (aT_lo (by omega)).2) hk hk6 (by omega))) (zvs_st (zvs_tl (zvs_tl hv))))) (fun hv p e9 s mi args below meth c H locs ls Q hC ha2 kk => ?_)
  obtain ⟨q0, -, hq⟩ := zw_at (zval_in (zvs_hd (zvs_tl hv)) (aT_lo (by omega)).2) σ
  rw [zent_q hk hk6] at hq
  obtain ⟨C, hC9⟩ := tyF_q hk hk6
  exact va_aldq (C := C) hC.1 hC.2.1 hC.2.2.2.2.2.2.2.1 ha2.2.1 q0 (aT k) hq (by rw [← hC9]; exact ztys_at X (by omega)) hin hdg (kk H locs ls ha2)
theorem zt_alen {k i : Nat} {t : List zAV} (hk : aT k ≤ 6) (hdg : decode (mB m) pc = .ok (.arraylength, 1)) (IH : zGW X m kr (pc + 1) σ L (vI (Int32.ofNat (aN k)) :: t) r) : zGW X m kr pc σ L (vR k i :: t) r := by
  refine IH.step (fun hv => zvs_app (zvs_L hv) (zvs_cons trivial (zvs_st (zvs_tl hv)))) (fun hv p e9 s mi args below meth c H locs ls Q hC ha2 kk => ?_)
  obtain ⟨q0, -, hq⟩ := zw_at (zval_in (zvs_hd hv) (aT_lo (by omega)).2) σ
  have he : ∃ y, zent X σ k i = .inl (zcA X (aT k), aN k, y) := by
    by_cases h3 : aT k < 3
    · exact ⟨_, zent_i h3⟩
    · by_cases h4 : aT k = 3
      · exact ⟨_, zent_l h4⟩
      · exact ⟨_, zent_q (by omega) hk⟩
  obtain ⟨y, he⟩ := he
  rw [he] at hq
  exact va_alen hC.1 hC.2.1 hC.2.2.2.2.2.2.2.1 ha2.2.1 q0 (aT k) hq (ztys_at X (by omega)) rfl hdg (kk H locs ls ha2)
theorem zent_up {X : zX} {σ : zH} {k i n : Nat} {x : Int32} (h : aT k < 3) : zent X (uI σ k i n x) k i = .inl (zcA X (aT k), aN k, .inl (upd (σ.1 k i) n x)) := by
  rw [zent_i h]
  have : (uI σ k i n x).1 k i = upd (σ.1 k i) n x := funext fun j => by simp [uI, upd]
  rw [this]
theorem zt_iastore (hX : zOK X) {k i : Nat} {x y : Int32} {t : List zAV} (hk : aT k = 0) (hin : vp_in x (aN k)) (hdg : decode (mB m) pc = .ok (.iastore, 1)) (IH : zGW X m kr (pc + 1) (uI σ k i x.toNatClampNeg y) L t r) : zGW X m kr pc σ L (vI y :: vI x :: vR k i :: t) r := by
  refine IH.step (fun hv => zvs_tl (zvs_tl (zvs_tl hv))) (fun hv p e9 s mi args below meth c H locs ls Q hC ha2 kk => ?_)
  obtain ⟨q0, hd0, hq⟩ := zw_at (zval_in (zvs_hd (zvs_tl (zvs_tl hv))) (aT_lo (by omega)).2) σ
  rw [zent_i (by omega)] at hq
  exact va_iast hC.1 hC.2.1 hC.2.2.2.2.2.2.2.1 ha2.2.1 (zw_D hX σ) ha2.2.2 q0 0 hq (by rw [hk]; exact ztys_at X (by omega)) hin hdg
    (fun H1 locs1 hP1 _ hS1 => kk H1 locs1 ls ⟨ha2.1, zw_set hX hd0 (zent_up (by omega)) (fun k' i' h => zent_ne k' i' h) hP1, hS1⟩)
theorem zt_bastore1 (hX : zOK X) {k i : Nat} {x y : Int32} {t : List zAV} (hk : aT k = 1) (hin : vp_in x (aN k)) (hdg : decode (mB m) pc = .ok (.bastore, 1)) (IH : zGW X m kr (pc + 1) (uI σ k i x.toNatClampNeg y.toInt8.toInt32) L t r) : zGW X m kr pc σ L (vI y :: vI x :: vR k i :: t) r := by
  refine IH.step (fun hv => zvs_tl (zvs_tl (zvs_tl hv))) (fun hv p e9 s mi args below meth c H locs ls Q hC ha2 kk => ?_)
  obtain ⟨q0, hd0, hq⟩ := zw_at (zval_in (zvs_hd (zvs_tl (zvs_tl hv))) (aT_lo (by omega)).2) σ
  rw [zent_i (by omega)] at hq
  exact va_bast hC.1 hC.2.1 hC.2.2.2.2.2.2.2.1 ha2.2.1 (zw_D hX σ) ha2.2.2 q0 1 hq (by rw [hk]; exact ztys_at X (by omega)) hin hdg
    (fun H1 locs1 hP1 _ hS1 => kk H1 locs1 ls ⟨ha2.1, zw_set hX hd0 (by rw [zent_up (by omega), vp_nar_byte]) (fun k' i' h => zent_ne k' i' h) hP1, hS1⟩)
theorem zt_bastore2 (hX : zOK X) {k i : Nat} {x y : Int32} {t : List zAV} (hk : aT k = 2) (hy : y = 0 ∨ y = 1) (hin : vp_in x (aN k)) (hdg : decode (mB m) pc = .ok (.bastore, 1)) (IH : zGW X m kr (pc + 1) (uI σ k i x.toNatClampNeg y) L t r) : zGW X m kr pc σ L (vI y :: vI x :: vR k i :: t) r := by
  refine IH.step (fun hv => zvs_tl (zvs_tl (zvs_tl hv))) (fun hv p e9 s mi args below meth c H locs ls Q hC ha2 kk => ?_)
  obtain ⟨q0, hd0, hq⟩ := zw_at (zval_in (zvs_hd (zvs_tl (zvs_tl hv))) (aT_lo (by omega)).2) σ
  rw [zent_i (by omega)] at hq
  have e : vp_nar .boolean y = y := by rcases hy with rfl | rfl <;> rfl
  exact va_zast hC.1 hC.2.1 hC.2.2.2.2.2.2.2.1 ha2.2.1 (zw_D hX σ) ha2.2.2 q0 2 hq (by rw [hk]; exact ztys_at X (by omega)) hin hdg
    (fun H1 locs1 hP1 _ hS1 => kk H1 locs1 ls ⟨ha2.1, zw_set hX hd0 (by rw [zent_up (by omega), e]) (fun k' i' h => zent_ne k' i' h) hP1, hS1⟩)
theorem zent_neL {X : zX} {σ : zH} {k i j : Nat} {x : Int64} (k' i' : Nat) (h : ¬ (k' = k ∧ i' = i)) : zent X (uL σ k i j x) k' i' = zent X σ k' i' := by
  unfold zent
  have e1 : (uL σ k i j x).2 k' i' = σ.2 k' i' := funext fun n => by
    simp only [uL]
    rw [if_neg (fun q => h ⟨q.1, q.2.1⟩)]
  rw [e1]
  rfl
theorem zt_lastore (hX : zOK X) {k i : Nat} {x : Int32} {y : Int64} {t : List zAV} (hk : aT k = 3) (hin : vp_in x (aN k)) (hdg : decode (mB m) pc = .ok (.lastore, 1)) (IH : zGW X m kr (pc + 1) (uL σ k i x.toNatClampNeg y) L t r) : zGW X m kr pc σ L (vL y :: vI x :: vR k i :: t) r := by
  refine IH.step (fun hv => zvs_tl (zvs_tl (zvs_tl hv))) (fun hv p e9 s mi args below meth c H locs ls Q hC ha2 kk => ?_)
  obtain ⟨q0, hd0, hq⟩ := zw_at (zval_in (zvs_hd (zvs_tl (zvs_tl hv))) (aT_lo (by omega)).2) σ
  rw [zent_l hk] at hq
  exact va_last hC.1 hC.2.1 hC.2.2.2.2.2.2.2.1 ha2.2.1 (zw_D hX σ) ha2.2.2 q0 3 hq (by rw [hk]; exact ztys_at X (by omega)) hin hdg
    (fun H1 locs1 hP1 _ hS1 => kk H1 locs1 ls ⟨ha2.1, zw_set hX hd0 (by
      rw [zent_l hk]
      have : (uL σ k i x.toNatClampNeg y).2 k i = vp_updL (σ.2 k i) x.toNatClampNeg y := funext fun j => by simp [uL, vp_updL]
      rw [this]) (fun k' i' h => zent_neL k' i' h) hP1, hS1⟩)
end
