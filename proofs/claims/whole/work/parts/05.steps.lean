/-! one instruction of the walk, one of the machine (by program: wip/whole/gen_steps.py) -/
theorem zpI_some {ρ : Type} {st : List zAV} {f : Int32 → List zAV → Option ρ} {r : ρ} (h : zpI st f = some r) : ∃ x t, st = vI x :: t ∧ f x t = some r := by
  rcases st with _ | ⟨x | x | x | x, t⟩
  · cases h
  · exact ⟨x, t, rfl, h⟩
  · cases h
  · cases h
  · cases h
theorem zpL_some {ρ : Type} {st : List zAV} {f : Int64 → List zAV → Option ρ} {r : ρ} (h : zpL st f = some r) : ∃ x t, st = vL x :: t ∧ f x t = some r := by
  rcases st with _ | ⟨x | x | x | x, t⟩
  · cases h
  · cases h
  · exact ⟨x, t, rfl, h⟩
  · cases h
  · cases h
theorem zpR_some {ρ : Type} {st : List zAV} {f : Nat → Nat → List zAV → Option ρ} {r : ρ} (h : zpR st f = some r) : ∃ k i t, st = vR k i :: t ∧ f k i t = some r := by
  rcases st with _ | ⟨x | x | x | x, t⟩
  · cases h
  · cases h
  · cases h
  · exact ⟨x.1, x.2, t, rfl, h⟩
  · cases h
theorem zp1_some {ρ : Type} {st : List zAV} {f : zAV → List zAV → Option ρ} {r : ρ} (h : zp1 st f = some r) : ∃ v t, st = v :: t ∧ f v t = some r := by
  rcases st with _ | ⟨x, t⟩
  · cases h
  · exact ⟨x, t, rfl, h⟩
theorem zvI_some {ρ : Type} {v : zAV} {f : Int32 → Option ρ} {r : ρ} (h : zvI v f = some r) : ∃ x, v = vI x ∧ f x = some r := by
  rcases v with x | x | x | x
  · exact ⟨x, rfl, h⟩
  · cases h
  · cases h
  · cases h
theorem zvL_some {ρ : Type} {v : zAV} {f : Int64 → Option ρ} {r : ρ} (h : zvL v f = some r) : ∃ x, v = vL x ∧ f x = some r := by
  rcases v with x | x | x | x
  · cases h
  · exact ⟨x, rfl, h⟩
  · cases h
  · cases h
theorem zvR_some {ρ : Type} {v : zAV} {f : Nat → Nat → Option ρ} {r : ρ} (h : zvR v f = some r) : ∃ k i, v = vR k i ∧ f k i = some r := by
  rcases v with x | x | x | x
  · cases h
  · cases h
  · exact ⟨x.1, x.2, rfl, h⟩
  · cases h
theorem gd_some {ρ : Type} {b : Bool} {x : Option ρ} {r : ρ} (h : gd b x = some r) : b = true ∧ x = some r := by
  cases b
  · cases h
  · exact ⟨rfl, h⟩
theorem ix_some {ρ : Type} {x : Int32} {n : Nat} {f : Nat → Option ρ} {r : ρ} (h : ix x n f = some r) : vp_in x n ∧ f x.toNatClampNeg = some r := by
  unfold ix at h
  split at h
  · cases h
  · rename_i hn
    exact ⟨hn, h⟩
theorem tv_some {ρ : Type} {x : Int32} {f : Option ρ} {r : ρ} (h : tv x f = some r) : (x = 0 ∨ x = 1) ∧ f = some r := by
  unfold tv at h
  split at h
  · rename_i hn
    exact ⟨hn, h⟩
  · cases h
theorem nz_some {ρ : Type} {x : Int32} {f : Option ρ} {r : ρ} (h : nz x f = some r) : ¬ x = 0 ∧ f = some r := by
  unfold nz at h
  split at h
  · cases h
  · rename_i hn
    exact ⟨hn, h⟩
theorem nzL_some {ρ : Type} {x : Int64} {f : Option ρ} {r : ρ} (h : nzL x f = some r) : ¬ x = 0 ∧ f = some r := by
  unfold nzL at h
  split at h
  · cases h
  · rename_i hn
    exact ⟨hn, h⟩
theorem vI_ne (x : Int32) : vI x ≠ vU := fun h => by cases h
theorem vL_ne (x : Int64) : vL x ≠ vU := fun h => by cases h
theorem vR_ne (k i : Nat) : vR k i ≠ vU := fun h => by cases h
theorem zt_iconst {ρ : Type} {X : zX} {m : Nat} {kr : zH → zAV → Option ρ} {pc : Nat} {σ : zH} {L st : List zAV} {r : ρ} {N : zH → List zAV → List zAV → Option ρ} {z : Int} {v : Int32} (hv : Int32.ofInt z = v) (hdg : decode (mB m) pc = .ok ((.iconst z), 1)) (IH : ∀ σ L st r, N σ L st = some r → zGW X m kr (pc + 1) σ L st r) (h : N σ L (vI v :: st) = some r) : zGW X m kr pc σ L st r :=
  (IH _ _ _ _ h).pure (fun hv => zvs_cons trivial (zvs_st hv)) (fun p e9 s mi args below meth c H locs ls Q hC ha k => lv_iconst hC.1 hC.2.1 hdg hv k)
theorem zt_bipush {ρ : Type} {X : zX} {m : Nat} {kr : zH → zAV → Option ρ} {pc : Nat} {σ : zH} {L st : List zAV} {r : ρ} {N : zH → List zAV → List zAV → Option ρ} {z : Int} {v : Int32} (hv : (Int8.ofInt z).toInt32 = v) (hdg : decode (mB m) pc = .ok ((.bipush z), 2)) (IH : ∀ σ L st r, N σ L st = some r → zGW X m kr (pc + 2) σ L st r) (h : N σ L (vI v :: st) = some r) : zGW X m kr pc σ L st r :=
  (IH _ _ _ _ h).pure (fun hv => zvs_cons trivial (zvs_st hv)) (fun p e9 s mi args below meth c H locs ls Q hC ha k => lv_bipush hC.1 hC.2.1 hdg hv k)
theorem zt_sipush {ρ : Type} {X : zX} {m : Nat} {kr : zH → zAV → Option ρ} {pc : Nat} {σ : zH} {L st : List zAV} {r : ρ} {N : zH → List zAV → List zAV → Option ρ} {z : Int} {v : Int32} (hv : (Int16.ofInt z).toInt32 = v) (hdg : decode (mB m) pc = .ok ((.sipush z), 3)) (IH : ∀ σ L st r, N σ L st = some r → zGW X m kr (pc + 3) σ L st r) (h : N σ L (vI v :: st) = some r) : zGW X m kr pc σ L st r :=
  (IH _ _ _ _ h).pure (fun hv => zvs_cons trivial (zvs_st hv)) (fun p e9 s mi args below meth c H locs ls Q hC ha k => lv_sipush hC.1 hC.2.1 hdg hv k)
theorem zt_lconst {ρ : Type} {X : zX} {m : Nat} {kr : zH → zAV → Option ρ} {pc : Nat} {σ : zH} {L st : List zAV} {r : ρ} {N : zH → List zAV → List zAV → Option ρ} {z : Fin 2} {v : Int64} (hv : Int64.ofNat z.val = v) (hdg : decode (mB m) pc = .ok ((.lconst z), 1)) (IH : ∀ σ L st r, N σ L st = some r → zGW X m kr (pc + 1) σ L st r) (h : N σ L (vL v :: st) = some r) : zGW X m kr pc σ L st r :=
  (IH _ _ _ _ h).pure (fun hv => zvs_cons trivial (zvs_st hv)) (fun p e9 s mi args below meth c H locs ls Q hC ha k => lv_lconst hC.1 hC.2.1 hdg hv k)
theorem zt_ldcI {ρ : Type} {X : zX} {m : Nat} {kr : zH → zAV → Option ρ} {pc : Nat} {σ : zH} {L st : List zAV} {r : ρ} {N : zH → List zAV → List zAV → Option ρ} {z : Nat} {v : Int32} (hv : Cond.constant (mY m).cls z v ∈ lw_good) (hdg : decode (mB m) pc = .ok ((.ldc z), 2)) (IH : ∀ σ L st r, N σ L st = some r → zGW X m kr (pc + 2) σ L st r) (h : N σ L (vI v :: st) = some r) : zGW X m kr pc σ L st r :=
  (IH _ _ _ _ h).pure (fun hv => zvs_cons trivial (zvs_st hv)) (fun p e9 s mi args below meth c H locs ls Q hC ha k => lv_ldc hC.1 hC.2.1 hC.2.2.2.2.1 (hC.2.2.2.2.2.1 _ hv) hdg k)
theorem zt_ldcwI {ρ : Type} {X : zX} {m : Nat} {kr : zH → zAV → Option ρ} {pc : Nat} {σ : zH} {L st : List zAV} {r : ρ} {N : zH → List zAV → List zAV → Option ρ} {z : Nat} {v : Int32} (hv : Cond.constant (mY m).cls z v ∈ lw_good) (hdg : decode (mB m) pc = .ok ((.ldc_w z), 3)) (IH : ∀ σ L st r, N σ L st = some r → zGW X m kr (pc + 3) σ L st r) (h : N σ L (vI v :: st) = some r) : zGW X m kr pc σ L st r :=
  (IH _ _ _ _ h).pure (fun hv => zvs_cons trivial (zvs_st hv)) (fun p e9 s mi args below meth c H locs ls Q hC ha k => lv_ldcw hC.1 hC.2.1 hC.2.2.2.2.1 (hC.2.2.2.2.2.1 _ hv) hdg k)
theorem zt_ldc2 {ρ : Type} {X : zX} {m : Nat} {kr : zH → zAV → Option ρ} {pc : Nat} {σ : zH} {L st : List zAV} {r : ρ} {N : zH → List zAV → List zAV → Option ρ} {z : Nat} {v : Int64} (hv : Cond.constantLong (mY m).cls z v ∈ lw_good) (hdg : decode (mB m) pc = .ok ((.ldc2_w z), 3)) (IH : ∀ σ L st r, N σ L st = some r → zGW X m kr (pc + 3) σ L st r) (h : N σ L (vL v :: st) = some r) : zGW X m kr pc σ L st r :=
  (IH _ _ _ _ h).pure (fun hv => zvs_cons trivial (zvs_st hv)) (fun p e9 s mi args below meth c H locs ls Q hC ha k => lv_ldc2 hC.1 hC.2.1 hC.2.2.2.2.1 (hC.2.2.2.2.2.1 _ hv) hdg k)
theorem zt_ldcS {ρ : Type} {X : zX} {m : Nat} {kr : zH → zAV → Option ρ} {pc : Nat} {σ : zH} {L st : List zAV} {r : ρ} {N : zH → List zAV → List zAV → Option ρ} {z b : Nat} (hb : b < zNS) (ho : zsO b = (mY m).cls ∧ zsI b = z) (hdg : decode (mB m) pc = .ok ((.ldc z), 2)) (IH : ∀ σ L st r, N σ L st = some r → zGW X m kr (pc + 2) σ L st r) (h : N σ L (vR 200 b :: st) = some r) : zGW X m kr pc σ L st r :=
  (IH _ _ _ _ h).pure (fun hv => zvs_cons (Or.inr ⟨rfl, hb⟩) (zvs_st hv)) (fun p e9 s mi args below meth c H locs ls Q hC ha k => va_ldcS hC.1 hC.2.1 hC.2.2.2.2.1 (by have q := (hC.2.2.2.2.2.2.2.2 b hb).2.1; rw [ho.1, ho.2] at q; exact q) hdg k)
theorem zt_iload_n {ρ : Type} {X : zX} {m : Nat} {kr : zH → zAV → Option ρ} {pc : Nat} {σ : zH} {L st : List zAV} {r : ρ} {N : zH → List zAV → List zAV → Option ρ} {n : Fin 4} (hdg : decode (mB m) pc = .ok ((.iload_n n), 1)) (IH : ∀ σ L st r, N σ L st = some r → zGW X m kr (pc + 1) σ L st r) (h : (zvI (zgt L n.val) fun x => N σ L (vI x :: st)) = some r) : zGW X m kr pc σ L st r := by
  obtain ⟨x, e, h1⟩ := zvI_some h
  exact (IH _ _ _ _ h1).pure (fun hv => zvs_cons (e ▸ zvs_getD (zvs_L hv) n.val) (zvs_st hv)) (fun p e9 s mi args below meth c H locs ls Q hC ha k => lv_iload_n hC.1 hC.2.1 hdg rfl (zls_ld ha.1 e (vI_ne x)) k)
theorem zt_iload {ρ : Type} {X : zX} {m : Nat} {kr : zH → zAV → Option ρ} {pc : Nat} {σ : zH} {L st : List zAV} {r : ρ} {N : zH → List zAV → List zAV → Option ρ} {n : Nat} (hdg : decode (mB m) pc = .ok ((.iload n), 2)) (IH : ∀ σ L st r, N σ L st = some r → zGW X m kr (pc + 2) σ L st r) (h : (zvI (zgt L n) fun x => N σ L (vI x :: st)) = some r) : zGW X m kr pc σ L st r := by
  obtain ⟨x, e, h1⟩ := zvI_some h
  exact (IH _ _ _ _ h1).pure (fun hv => zvs_cons (e ▸ zvs_getD (zvs_L hv) n) (zvs_st hv)) (fun p e9 s mi args below meth c H locs ls Q hC ha k => lv_iload hC.1 hC.2.1 hdg (zls_ld ha.1 e (vI_ne x)) k)
theorem zt_lload_n {ρ : Type} {X : zX} {m : Nat} {kr : zH → zAV → Option ρ} {pc : Nat} {σ : zH} {L st : List zAV} {r : ρ} {N : zH → List zAV → List zAV → Option ρ} {n : Fin 4} (hdg : decode (mB m) pc = .ok ((.lload_n n), 1)) (IH : ∀ σ L st r, N σ L st = some r → zGW X m kr (pc + 1) σ L st r) (h : (zvL (zgt L n.val) fun x => N σ L (vL x :: st)) = some r) : zGW X m kr pc σ L st r := by
  obtain ⟨x, e, h1⟩ := zvL_some h
  exact (IH _ _ _ _ h1).pure (fun hv => zvs_cons (e ▸ zvs_getD (zvs_L hv) n.val) (zvs_st hv)) (fun p e9 s mi args below meth c H locs ls Q hC ha k => lv_lload_n hC.1 hC.2.1 hdg rfl (zls_ld ha.1 e (vL_ne x)) k)
theorem zt_lload {ρ : Type} {X : zX} {m : Nat} {kr : zH → zAV → Option ρ} {pc : Nat} {σ : zH} {L st : List zAV} {r : ρ} {N : zH → List zAV → List zAV → Option ρ} {n : Nat} (hdg : decode (mB m) pc = .ok ((.lload n), 2)) (IH : ∀ σ L st r, N σ L st = some r → zGW X m kr (pc + 2) σ L st r) (h : (zvL (zgt L n) fun x => N σ L (vL x :: st)) = some r) : zGW X m kr pc σ L st r := by
  obtain ⟨x, e, h1⟩ := zvL_some h
  exact (IH _ _ _ _ h1).pure (fun hv => zvs_cons (e ▸ zvs_getD (zvs_L hv) n) (zvs_st hv)) (fun p e9 s mi args below meth c H locs ls Q hC ha k => lv_lload hC.1 hC.2.1 hdg (zls_ld ha.1 e (vL_ne x)) k)
theorem zt_aload_n {ρ : Type} {X : zX} {m : Nat} {kr : zH → zAV → Option ρ} {pc : Nat} {σ : zH} {L st : List zAV} {r : ρ} {N : zH → List zAV → List zAV → Option ρ} {n : Fin 4} (hdg : decode (mB m) pc = .ok ((.aload_n n), 1)) (IH : ∀ σ L st r, N σ L st = some r → zGW X m kr (pc + 1) σ L st r) (h : (zvR (zgt L n.val) fun k0 i0 => N σ L (vR k0 i0 :: st)) = some r) : zGW X m kr pc σ L st r := by
  obtain ⟨k0, i0, e, h1⟩ := zvR_some h
  exact (IH _ _ _ _ h1).pure (fun hv => zvs_cons (e ▸ zvs_getD (zvs_L hv) n.val) (zvs_st hv)) (fun p e9 s mi args below meth c H locs ls Q hC ha k => lv_aload_n hC.1 hC.2.1 hdg rfl (zls_ld ha.1 e (vR_ne k0 i0)) k)
theorem zt_aload {ρ : Type} {X : zX} {m : Nat} {kr : zH → zAV → Option ρ} {pc : Nat} {σ : zH} {L st : List zAV} {r : ρ} {N : zH → List zAV → List zAV → Option ρ} {n : Nat} (hdg : decode (mB m) pc = .ok ((.aload n), 2)) (IH : ∀ σ L st r, N σ L st = some r → zGW X m kr (pc + 2) σ L st r) (h : (zvR (zgt L n) fun k0 i0 => N σ L (vR k0 i0 :: st)) = some r) : zGW X m kr pc σ L st r := by
  obtain ⟨k0, i0, e, h1⟩ := zvR_some h
  exact (IH _ _ _ _ h1).pure (fun hv => zvs_cons (e ▸ zvs_getD (zvs_L hv) n) (zvs_st hv)) (fun p e9 s mi args below meth c H locs ls Q hC ha k => lv_aload hC.1 hC.2.1 hdg (zls_ld ha.1 e (vR_ne k0 i0)) k)
theorem zt_istore_n {ρ : Type} {X : zX} {m : Nat} {kr : zH → zAV → Option ρ} {pc : Nat} {σ : zH} {L st : List zAV} {r : ρ} {N : zH → List zAV → List zAV → Option ρ} {n : Fin 4} (hn : n.val < mL m) (hdg : decode (mB m) pc = .ok ((.istore_n n), 1)) (IH : ∀ σ L st r, N σ L st = some r → zGW X m kr (pc + 1) σ L st r) (h : (zpI st fun x t => N σ (zs1 L n.val (vI x)) t) = some r) : zGW X m kr pc σ L st r := by
  obtain ⟨x, t, rfl, h1⟩ := zpI_some h
  refine (IH _ _ _ _ h1).step (fun hv => zvs_app (zvs_s1 (zvs_L hv) n.val (zvs_hd hv)) (zvs_st (zvs_tl hv))) (fun _ p e s mi args below meth c H locs ls Q hC ha k => ?_)
  exact lv_istore_n hC.1 hC.2.1 hdg rfl (zls_has ha.1) hn rfl (fun ls1 h1 => k H locs ls1 ⟨zls_s1 (v := vI x) ha.1.2.2.1 h1, ha.2⟩)
theorem zt_istore {ρ : Type} {X : zX} {m : Nat} {kr : zH → zAV → Option ρ} {pc : Nat} {σ : zH} {L st : List zAV} {r : ρ} {N : zH → List zAV → List zAV → Option ρ} {n : Nat} (hn : n < mL m) (hdg : decode (mB m) pc = .ok ((.istore n), 2)) (IH : ∀ σ L st r, N σ L st = some r → zGW X m kr (pc + 2) σ L st r) (h : (zpI st fun x t => N σ (zs1 L n (vI x)) t) = some r) : zGW X m kr pc σ L st r := by
  obtain ⟨x, t, rfl, h1⟩ := zpI_some h
  refine (IH _ _ _ _ h1).step (fun hv => zvs_app (zvs_s1 (zvs_L hv) n (zvs_hd hv)) (zvs_st (zvs_tl hv))) (fun _ p e s mi args below meth c H locs ls Q hC ha k => ?_)
  exact lv_istore hC.1 hC.2.1 hdg (zls_has ha.1) hn rfl (fun ls1 h1 => k H locs ls1 ⟨zls_s1 (v := vI x) ha.1.2.2.1 h1, ha.2⟩)
theorem zt_astore_n {ρ : Type} {X : zX} {m : Nat} {kr : zH → zAV → Option ρ} {pc : Nat} {σ : zH} {L st : List zAV} {r : ρ} {N : zH → List zAV → List zAV → Option ρ} {n : Fin 4} (hn : n.val < mL m) (hdg : decode (mB m) pc = .ok ((.astore_n n), 1)) (IH : ∀ σ L st r, N σ L st = some r → zGW X m kr (pc + 1) σ L st r) (h : (zpR st fun k0 i0 t => N σ (zs1 L n.val (vR k0 i0)) t) = some r) : zGW X m kr pc σ L st r := by
  obtain ⟨k0, i0, t, rfl, h1⟩ := zpR_some h
  refine (IH _ _ _ _ h1).step (fun hv => zvs_app (zvs_s1 (zvs_L hv) n.val (zvs_hd hv)) (zvs_st (zvs_tl hv))) (fun _ p e s mi args below meth c H locs ls Q hC ha k => ?_)
  exact lv_astore_n hC.1 hC.2.1 hdg rfl (zls_has ha.1) hn rfl (fun ls1 h1 => k H locs ls1 ⟨zls_s1 (v := vR k0 i0) ha.1.2.2.1 h1, ha.2⟩)
theorem zt_astore {ρ : Type} {X : zX} {m : Nat} {kr : zH → zAV → Option ρ} {pc : Nat} {σ : zH} {L st : List zAV} {r : ρ} {N : zH → List zAV → List zAV → Option ρ} {n : Nat} (hn : n < mL m) (hdg : decode (mB m) pc = .ok ((.astore n), 2)) (IH : ∀ σ L st r, N σ L st = some r → zGW X m kr (pc + 2) σ L st r) (h : (zpR st fun k0 i0 t => N σ (zs1 L n (vR k0 i0)) t) = some r) : zGW X m kr pc σ L st r := by
  obtain ⟨k0, i0, t, rfl, h1⟩ := zpR_some h
  refine (IH _ _ _ _ h1).step (fun hv => zvs_app (zvs_s1 (zvs_L hv) n (zvs_hd hv)) (zvs_st (zvs_tl hv))) (fun _ p e s mi args below meth c H locs ls Q hC ha k => ?_)
  exact lv_astore hC.1 hC.2.1 hdg (zls_has ha.1) hn rfl (fun ls1 h1 => k H locs ls1 ⟨zls_s1 (v := vR k0 i0) ha.1.2.2.1 h1, ha.2⟩)
theorem zt_lstore_n {ρ : Type} {X : zX} {m : Nat} {kr : zH → zAV → Option ρ} {pc : Nat} {σ : zH} {L st : List zAV} {r : ρ} {N : zH → List zAV → List zAV → Option ρ} {n : Fin 4} (hn : n.val + 1 < mL m) (hdg : decode (mB m) pc = .ok ((.lstore_n n), 1)) (IH : ∀ σ L st r, N σ L st = some r → zGW X m kr (pc + 1) σ L st r) (h : (zpL st fun x t => N σ (zs2 L n.val (vL x)) t) = some r) : zGW X m kr pc σ L st r := by
  obtain ⟨x, t, rfl, h1⟩ := zpL_some h
  refine (IH _ _ _ _ h1).step (fun hv => zvs_app (zvs_s2 (zvs_L hv) n.val (zvs_hd hv)) (zvs_st (zvs_tl hv))) (fun _ p e s mi args below meth c H locs ls Q hC ha k => ?_)
  exact lv_lstore_n hC.1 hC.2.1 hdg rfl (zls_has ha.1) hn rfl (fun ls1 h1 => k H locs ls1 ⟨zls_s2 (v := vL x) ha.1.2.2.1 h1, ha.2⟩)
theorem zt_lstore {ρ : Type} {X : zX} {m : Nat} {kr : zH → zAV → Option ρ} {pc : Nat} {σ : zH} {L st : List zAV} {r : ρ} {N : zH → List zAV → List zAV → Option ρ} {n : Nat} (hn : n + 1 < mL m) (hdg : decode (mB m) pc = .ok ((.lstore n), 2)) (IH : ∀ σ L st r, N σ L st = some r → zGW X m kr (pc + 2) σ L st r) (h : (zpL st fun x t => N σ (zs2 L n (vL x)) t) = some r) : zGW X m kr pc σ L st r := by
  obtain ⟨x, t, rfl, h1⟩ := zpL_some h
  refine (IH _ _ _ _ h1).step (fun hv => zvs_app (zvs_s2 (zvs_L hv) n (zvs_hd hv)) (zvs_st (zvs_tl hv))) (fun _ p e s mi args below meth c H locs ls Q hC ha k => ?_)
  exact lv_lstore hC.1 hC.2.1 hdg (zls_has ha.1) hn rfl (fun ls1 h1 => k H locs ls1 ⟨zls_s2 (v := vL x) ha.1.2.2.1 h1, ha.2⟩)
theorem zt_iinc {ρ : Type} {X : zX} {m : Nat} {kr : zH → zAV → Option ρ} {pc : Nat} {σ : zH} {L st : List zAV} {r : ρ} {N : zH → List zAV → List zAV → Option ρ} {n : Nat} {z : Int} {w : Int32} (hn : n < mL m) (hz : Int32.ofInt z = w) (hdg : decode (mB m) pc = .ok (.iinc n z, 3)) (IH : ∀ σ L st r, N σ L st = some r → zGW X m kr (pc + 3) σ L st r) (h : (zvI (zgt L n) fun x => N σ (zs1 L n (vI (x + w))) st) = some r) : zGW X m kr pc σ L st r := by
  obtain ⟨x, e, h1⟩ := zvI_some h
  refine (IH _ _ _ _ h1).step (fun hv => zvs_app (zvs_s1 (zvs_L hv) n trivial) (zvs_st hv)) (fun _ p e2 s mi args below meth c H locs ls Q hC ha k => ?_)
  have hm : (n, Value.int x) ∈ zlv (zad X) L := by
    refine zlv_mem (v := vI x) ?_ (vI_ne x)
    rw [zgt_eq, List.getD_eq_getElem?_getD] at e
    cases e3 : L[n]? with
    | none => rw [e3] at e; exact absurd e.symm (vI_ne x)
    | some w => rw [e3] at e; exact congrArg some e
  obtain ⟨k0, hk0⟩ := List.getElem?_of_mem hm
  exact lv_iinc hC.1 hC.2.1 hdg (zls_has ha.1) hk0 (by rw [hz]) hn rfl (fun ls1 h1 => k H locs ls1 ⟨zls_s1 (v := vI (x + w)) ha.1.2.2.1 h1, ha.2⟩)
theorem zt_iadd {ρ : Type} {X : zX} {m : Nat} {kr : zH → zAV → Option ρ} {pc : Nat} {σ : zH} {L st : List zAV} {r : ρ} {N : zH → List zAV → List zAV → Option ρ} (hdg : decode (mB m) pc = .ok (.iadd, 1)) (IH : ∀ σ L st r, N σ L st = some r → zGW X m kr (pc + 1) σ L st r) (h : (zpI st fun y r => zpI r fun x r => N σ L (vI (x + y) :: r)) = some r) : zGW X m kr pc σ L st r := by
  obtain ⟨y, t, rfl, h1⟩ := zpI_some h
  obtain ⟨x, t, rfl, h2⟩ := zpI_some h1
  exact (IH _ _ _ _ h2).pure (fun hv => zvs_cons trivial (zvs_st (zvs_tl (zvs_tl hv)))) (fun p e9 s mi args below meth c H locs ls Q hC ha k => lv_iadd hC.1 hC.2.1 hdg k)
theorem zt_isub {ρ : Type} {X : zX} {m : Nat} {kr : zH → zAV → Option ρ} {pc : Nat} {σ : zH} {L st : List zAV} {r : ρ} {N : zH → List zAV → List zAV → Option ρ} (hdg : decode (mB m) pc = .ok (.isub, 1)) (IH : ∀ σ L st r, N σ L st = some r → zGW X m kr (pc + 1) σ L st r) (h : (zpI st fun y r => zpI r fun x r => N σ L (vI (x - y) :: r)) = some r) : zGW X m kr pc σ L st r := by
  obtain ⟨y, t, rfl, h1⟩ := zpI_some h
  obtain ⟨x, t, rfl, h2⟩ := zpI_some h1
  exact (IH _ _ _ _ h2).pure (fun hv => zvs_cons trivial (zvs_st (zvs_tl (zvs_tl hv)))) (fun p e9 s mi args below meth c H locs ls Q hC ha k => lv_isub hC.1 hC.2.1 hdg k)
theorem zt_imul {ρ : Type} {X : zX} {m : Nat} {kr : zH → zAV → Option ρ} {pc : Nat} {σ : zH} {L st : List zAV} {r : ρ} {N : zH → List zAV → List zAV → Option ρ} (hdg : decode (mB m) pc = .ok (.imul, 1)) (IH : ∀ σ L st r, N σ L st = some r → zGW X m kr (pc + 1) σ L st r) (h : (zpI st fun y r => zpI r fun x r => N σ L (vI (x * y) :: r)) = some r) : zGW X m kr pc σ L st r := by
  obtain ⟨y, t, rfl, h1⟩ := zpI_some h
  obtain ⟨x, t, rfl, h2⟩ := zpI_some h1
  exact (IH _ _ _ _ h2).pure (fun hv => zvs_cons trivial (zvs_st (zvs_tl (zvs_tl hv)))) (fun p e9 s mi args below meth c H locs ls Q hC ha k => lv_imul hC.1 hC.2.1 hdg k)
theorem zt_iand {ρ : Type} {X : zX} {m : Nat} {kr : zH → zAV → Option ρ} {pc : Nat} {σ : zH} {L st : List zAV} {r : ρ} {N : zH → List zAV → List zAV → Option ρ} (hdg : decode (mB m) pc = .ok (.iand, 1)) (IH : ∀ σ L st r, N σ L st = some r → zGW X m kr (pc + 1) σ L st r) (h : (zpI st fun y r => zpI r fun x r => N σ L (vI (x &&& y) :: r)) = some r) : zGW X m kr pc σ L st r := by
  obtain ⟨y, t, rfl, h1⟩ := zpI_some h
  obtain ⟨x, t, rfl, h2⟩ := zpI_some h1
  exact (IH _ _ _ _ h2).pure (fun hv => zvs_cons trivial (zvs_st (zvs_tl (zvs_tl hv)))) (fun p e9 s mi args below meth c H locs ls Q hC ha k => lv_iand hC.1 hC.2.1 hdg k)
theorem zt_ior {ρ : Type} {X : zX} {m : Nat} {kr : zH → zAV → Option ρ} {pc : Nat} {σ : zH} {L st : List zAV} {r : ρ} {N : zH → List zAV → List zAV → Option ρ} (hdg : decode (mB m) pc = .ok (.ior, 1)) (IH : ∀ σ L st r, N σ L st = some r → zGW X m kr (pc + 1) σ L st r) (h : (zpI st fun y r => zpI r fun x r => N σ L (vI (x ||| y) :: r)) = some r) : zGW X m kr pc σ L st r := by
  obtain ⟨y, t, rfl, h1⟩ := zpI_some h
  obtain ⟨x, t, rfl, h2⟩ := zpI_some h1
  exact (IH _ _ _ _ h2).pure (fun hv => zvs_cons trivial (zvs_st (zvs_tl (zvs_tl hv)))) (fun p e9 s mi args below meth c H locs ls Q hC ha k => lv_ior hC.1 hC.2.1 hdg k)
theorem zt_ixor {ρ : Type} {X : zX} {m : Nat} {kr : zH → zAV → Option ρ} {pc : Nat} {σ : zH} {L st : List zAV} {r : ρ} {N : zH → List zAV → List zAV → Option ρ} (hdg : decode (mB m) pc = .ok (.ixor, 1)) (IH : ∀ σ L st r, N σ L st = some r → zGW X m kr (pc + 1) σ L st r) (h : (zpI st fun y r => zpI r fun x r => N σ L (vI (x ^^^ y) :: r)) = some r) : zGW X m kr pc σ L st r := by
  obtain ⟨y, t, rfl, h1⟩ := zpI_some h
  obtain ⟨x, t, rfl, h2⟩ := zpI_some h1
  exact (IH _ _ _ _ h2).pure (fun hv => zvs_cons trivial (zvs_st (zvs_tl (zvs_tl hv)))) (fun p e9 s mi args below meth c H locs ls Q hC ha k => lv_ixor hC.1 hC.2.1 hdg k)
theorem zt_ishl {ρ : Type} {X : zX} {m : Nat} {kr : zH → zAV → Option ρ} {pc : Nat} {σ : zH} {L st : List zAV} {r : ρ} {N : zH → List zAV → List zAV → Option ρ} (hdg : decode (mB m) pc = .ok (.ishl, 1)) (IH : ∀ σ L st r, N σ L st = some r → zGW X m kr (pc + 1) σ L st r) (h : (zpI st fun y r => zpI r fun x r => N σ L (vI (x <<< (y &&& 31)) :: r)) = some r) : zGW X m kr pc σ L st r := by
  obtain ⟨y, t, rfl, h1⟩ := zpI_some h
  obtain ⟨x, t, rfl, h2⟩ := zpI_some h1
  exact (IH _ _ _ _ h2).pure (fun hv => zvs_cons trivial (zvs_st (zvs_tl (zvs_tl hv)))) (fun p e9 s mi args below meth c H locs ls Q hC ha k => lv_ishl hC.1 hC.2.1 hdg k)
theorem zt_ishr {ρ : Type} {X : zX} {m : Nat} {kr : zH → zAV → Option ρ} {pc : Nat} {σ : zH} {L st : List zAV} {r : ρ} {N : zH → List zAV → List zAV → Option ρ} (hdg : decode (mB m) pc = .ok (.ishr, 1)) (IH : ∀ σ L st r, N σ L st = some r → zGW X m kr (pc + 1) σ L st r) (h : (zpI st fun y r => zpI r fun x r => N σ L (vI (x >>> (y &&& 31)) :: r)) = some r) : zGW X m kr pc σ L st r := by
  obtain ⟨y, t, rfl, h1⟩ := zpI_some h
  obtain ⟨x, t, rfl, h2⟩ := zpI_some h1
  exact (IH _ _ _ _ h2).pure (fun hv => zvs_cons trivial (zvs_st (zvs_tl (zvs_tl hv)))) (fun p e9 s mi args below meth c H locs ls Q hC ha k => lv_ishr hC.1 hC.2.1 hdg k)
theorem zt_iushr {ρ : Type} {X : zX} {m : Nat} {kr : zH → zAV → Option ρ} {pc : Nat} {σ : zH} {L st : List zAV} {r : ρ} {N : zH → List zAV → List zAV → Option ρ} (hdg : decode (mB m) pc = .ok (.iushr, 1)) (IH : ∀ σ L st r, N σ L st = some r → zGW X m kr (pc + 1) σ L st r) (h : (zpI st fun y r => zpI r fun x r => N σ L (vI ((x.toUInt32 >>> (y.toUInt32 &&& Int32.toUInt32 31)).toInt32) :: r)) = some r) : zGW X m kr pc σ L st r := by
  obtain ⟨y, t, rfl, h1⟩ := zpI_some h
  obtain ⟨x, t, rfl, h2⟩ := zpI_some h1
  exact (IH _ _ _ _ h2).pure (fun hv => zvs_cons trivial (zvs_st (zvs_tl (zvs_tl hv)))) (fun p e9 s mi args below meth c H locs ls Q hC ha k => lv_iushr hC.1 hC.2.1 hdg rfl k)
theorem zt_idiv {ρ : Type} {X : zX} {m : Nat} {kr : zH → zAV → Option ρ} {pc : Nat} {σ : zH} {L st : List zAV} {r : ρ} {N : zH → List zAV → List zAV → Option ρ} (hdg : decode (mB m) pc = .ok (.idiv, 1)) (IH : ∀ σ L st r, N σ L st = some r → zGW X m kr (pc + 1) σ L st r) (h : (zpI st fun y r => zpI r fun x r => nz y (N σ L (vI (x / y) :: r))) = some r) : zGW X m kr pc σ L st r := by
  obtain ⟨y, t, rfl, h1⟩ := zpI_some h
  obtain ⟨x, t, rfl, h2⟩ := zpI_some h1
  obtain ⟨hy, h3⟩ := nz_some h2
  exact (IH _ _ _ _ h3).pure (fun hv => zvs_cons trivial (zvs_st (zvs_tl (zvs_tl hv)))) (fun p e9 s mi args below meth c H locs ls Q hC ha k => lv_idiv hC.1 hC.2.1 hdg hy k)
theorem zt_irem {ρ : Type} {X : zX} {m : Nat} {kr : zH → zAV → Option ρ} {pc : Nat} {σ : zH} {L st : List zAV} {r : ρ} {N : zH → List zAV → List zAV → Option ρ} (hdg : decode (mB m) pc = .ok (.irem, 1)) (IH : ∀ σ L st r, N σ L st = some r → zGW X m kr (pc + 1) σ L st r) (h : (zpI st fun y r => zpI r fun x r => nz y (N σ L (vI (x - x / y * y) :: r))) = some r) : zGW X m kr pc σ L st r := by
  obtain ⟨y, t, rfl, h1⟩ := zpI_some h
  obtain ⟨x, t, rfl, h2⟩ := zpI_some h1
  obtain ⟨hy, h3⟩ := nz_some h2
  exact (IH _ _ _ _ h3).pure (fun hv => zvs_cons trivial (zvs_st (zvs_tl (zvs_tl hv)))) (fun p e9 s mi args below meth c H locs ls Q hC ha k => lv_irem hC.1 hC.2.1 hdg hy k)
theorem zt_ladd {ρ : Type} {X : zX} {m : Nat} {kr : zH → zAV → Option ρ} {pc : Nat} {σ : zH} {L st : List zAV} {r : ρ} {N : zH → List zAV → List zAV → Option ρ} (hdg : decode (mB m) pc = .ok (.ladd, 1)) (IH : ∀ σ L st r, N σ L st = some r → zGW X m kr (pc + 1) σ L st r) (h : (zpL st fun y r => zpL r fun x r => N σ L (vL (x + y) :: r)) = some r) : zGW X m kr pc σ L st r := by
  obtain ⟨y, t, rfl, h1⟩ := zpL_some h
  obtain ⟨x, t, rfl, h2⟩ := zpL_some h1
  exact (IH _ _ _ _ h2).pure (fun hv => zvs_cons trivial (zvs_st (zvs_tl (zvs_tl hv)))) (fun p e9 s mi args below meth c H locs ls Q hC ha k => lv_ladd hC.1 hC.2.1 hdg k)
theorem zt_lsub {ρ : Type} {X : zX} {m : Nat} {kr : zH → zAV → Option ρ} {pc : Nat} {σ : zH} {L st : List zAV} {r : ρ} {N : zH → List zAV → List zAV → Option ρ} (hdg : decode (mB m) pc = .ok (.lsub, 1)) (IH : ∀ σ L st r, N σ L st = some r → zGW X m kr (pc + 1) σ L st r) (h : (zpL st fun y r => zpL r fun x r => N σ L (vL (x - y) :: r)) = some r) : zGW X m kr pc σ L st r := by
  obtain ⟨y, t, rfl, h1⟩ := zpL_some h
  obtain ⟨x, t, rfl, h2⟩ := zpL_some h1
  exact (IH _ _ _ _ h2).pure (fun hv => zvs_cons trivial (zvs_st (zvs_tl (zvs_tl hv)))) (fun p e9 s mi args below meth c H locs ls Q hC ha k => lv_lsub hC.1 hC.2.1 hdg k)
theorem zt_lmul {ρ : Type} {X : zX} {m : Nat} {kr : zH → zAV → Option ρ} {pc : Nat} {σ : zH} {L st : List zAV} {r : ρ} {N : zH → List zAV → List zAV → Option ρ} (hdg : decode (mB m) pc = .ok (.lmul, 1)) (IH : ∀ σ L st r, N σ L st = some r → zGW X m kr (pc + 1) σ L st r) (h : (zpL st fun y r => zpL r fun x r => N σ L (vL (x * y) :: r)) = some r) : zGW X m kr pc σ L st r := by
  obtain ⟨y, t, rfl, h1⟩ := zpL_some h
  obtain ⟨x, t, rfl, h2⟩ := zpL_some h1
  exact (IH _ _ _ _ h2).pure (fun hv => zvs_cons trivial (zvs_st (zvs_tl (zvs_tl hv)))) (fun p e9 s mi args below meth c H locs ls Q hC ha k => lv_lmul hC.1 hC.2.1 hdg k)
theorem zt_land {ρ : Type} {X : zX} {m : Nat} {kr : zH → zAV → Option ρ} {pc : Nat} {σ : zH} {L st : List zAV} {r : ρ} {N : zH → List zAV → List zAV → Option ρ} (hdg : decode (mB m) pc = .ok (.land, 1)) (IH : ∀ σ L st r, N σ L st = some r → zGW X m kr (pc + 1) σ L st r) (h : (zpL st fun y r => zpL r fun x r => N σ L (vL (x &&& y) :: r)) = some r) : zGW X m kr pc σ L st r := by
  obtain ⟨y, t, rfl, h1⟩ := zpL_some h
  obtain ⟨x, t, rfl, h2⟩ := zpL_some h1
  exact (IH _ _ _ _ h2).pure (fun hv => zvs_cons trivial (zvs_st (zvs_tl (zvs_tl hv)))) (fun p e9 s mi args below meth c H locs ls Q hC ha k => lv_land hC.1 hC.2.1 hdg k)
theorem zt_lor {ρ : Type} {X : zX} {m : Nat} {kr : zH → zAV → Option ρ} {pc : Nat} {σ : zH} {L st : List zAV} {r : ρ} {N : zH → List zAV → List zAV → Option ρ} (hdg : decode (mB m) pc = .ok (.lor, 1)) (IH : ∀ σ L st r, N σ L st = some r → zGW X m kr (pc + 1) σ L st r) (h : (zpL st fun y r => zpL r fun x r => N σ L (vL (x ||| y) :: r)) = some r) : zGW X m kr pc σ L st r := by
  obtain ⟨y, t, rfl, h1⟩ := zpL_some h
  obtain ⟨x, t, rfl, h2⟩ := zpL_some h1
  exact (IH _ _ _ _ h2).pure (fun hv => zvs_cons trivial (zvs_st (zvs_tl (zvs_tl hv)))) (fun p e9 s mi args below meth c H locs ls Q hC ha k => lv_lor hC.1 hC.2.1 hdg k)
theorem zt_ldiv {ρ : Type} {X : zX} {m : Nat} {kr : zH → zAV → Option ρ} {pc : Nat} {σ : zH} {L st : List zAV} {r : ρ} {N : zH → List zAV → List zAV → Option ρ} (hdg : decode (mB m) pc = .ok (.ldiv, 1)) (IH : ∀ σ L st r, N σ L st = some r → zGW X m kr (pc + 1) σ L st r) (h : (zpL st fun y r => zpL r fun x r => nzL y (N σ L (vL (x / y) :: r))) = some r) : zGW X m kr pc σ L st r := by
  obtain ⟨y, t, rfl, h1⟩ := zpL_some h
  obtain ⟨x, t, rfl, h2⟩ := zpL_some h1
  obtain ⟨hy, h3⟩ := nzL_some h2
  exact (IH _ _ _ _ h3).pure (fun hv => zvs_cons trivial (zvs_st (zvs_tl (zvs_tl hv)))) (fun p e9 s mi args below meth c H locs ls Q hC ha k => lv_ldiv hC.1 hC.2.1 hdg hy k)
theorem zt_lrem {ρ : Type} {X : zX} {m : Nat} {kr : zH → zAV → Option ρ} {pc : Nat} {σ : zH} {L st : List zAV} {r : ρ} {N : zH → List zAV → List zAV → Option ρ} (hdg : decode (mB m) pc = .ok (.lrem, 1)) (IH : ∀ σ L st r, N σ L st = some r → zGW X m kr (pc + 1) σ L st r) (h : (zpL st fun y r => zpL r fun x r => nzL y (N σ L (vL (x - x / y * y) :: r))) = some r) : zGW X m kr pc σ L st r := by
  obtain ⟨y, t, rfl, h1⟩ := zpL_some h
  obtain ⟨x, t, rfl, h2⟩ := zpL_some h1
  obtain ⟨hy, h3⟩ := nzL_some h2
  exact (IH _ _ _ _ h3).pure (fun hv => zvs_cons trivial (zvs_st (zvs_tl (zvs_tl hv)))) (fun p e9 s mi args below meth c H locs ls Q hC ha k => lv_lrem hC.1 hC.2.1 hdg hy k)
theorem zt_lcmp {ρ : Type} {X : zX} {m : Nat} {kr : zH → zAV → Option ρ} {pc : Nat} {σ : zH} {L st : List zAV} {r : ρ} {N : zH → List zAV → List zAV → Option ρ} (hdg : decode (mB m) pc = .ok (.lcmp, 1)) (IH : ∀ σ L st r, N σ L st = some r → zGW X m kr (pc + 1) σ L st r) (h : (zpL st fun y r => zpL r fun x r => N σ L (vI (lg_cmp x y) :: r)) = some r) : zGW X m kr pc σ L st r := by
  obtain ⟨y, t, rfl, h1⟩ := zpL_some h
  obtain ⟨x, t, rfl, h2⟩ := zpL_some h1
  exact (IH _ _ _ _ h2).pure (fun hv => zvs_cons trivial (zvs_st (zvs_tl (zvs_tl hv)))) (fun p e9 s mi args below meth c H locs ls Q hC ha k => W.lcmp hC.1 hC.2.1 hdg k)
theorem zt_i2l {ρ : Type} {X : zX} {m : Nat} {kr : zH → zAV → Option ρ} {pc : Nat} {σ : zH} {L st : List zAV} {r : ρ} {N : zH → List zAV → List zAV → Option ρ} (hdg : decode (mB m) pc = .ok (.i2l, 1)) (IH : ∀ σ L st r, N σ L st = some r → zGW X m kr (pc + 1) σ L st r) (h : (zpI st fun x r => N σ L (vL x.toInt64 :: r)) = some r) : zGW X m kr pc σ L st r := by
  obtain ⟨x, t, rfl, h1⟩ := zpI_some h
  exact (IH _ _ _ _ h1).pure (fun hv => zvs_cons trivial (zvs_st (zvs_tl hv))) (fun p e9 s mi args below meth c H locs ls Q hC ha k => lv_i2l hC.1 hC.2.1 hdg rfl k)
theorem zt_l2i {ρ : Type} {X : zX} {m : Nat} {kr : zH → zAV → Option ρ} {pc : Nat} {σ : zH} {L st : List zAV} {r : ρ} {N : zH → List zAV → List zAV → Option ρ} (hdg : decode (mB m) pc = .ok (.l2i, 1)) (IH : ∀ σ L st r, N σ L st = some r → zGW X m kr (pc + 1) σ L st r) (h : (zpL st fun x r => N σ L (vI x.toInt32 :: r)) = some r) : zGW X m kr pc σ L st r := by
  obtain ⟨x, t, rfl, h1⟩ := zpL_some h
  exact (IH _ _ _ _ h1).pure (fun hv => zvs_cons trivial (zvs_st (zvs_tl hv))) (fun p e9 s mi args below meth c H locs ls Q hC ha k => lv_l2i hC.1 hC.2.1 hdg rfl k)
theorem zt_i2b {ρ : Type} {X : zX} {m : Nat} {kr : zH → zAV → Option ρ} {pc : Nat} {σ : zH} {L st : List zAV} {r : ρ} {N : zH → List zAV → List zAV → Option ρ} (hdg : decode (mB m) pc = .ok (.i2b, 1)) (IH : ∀ σ L st r, N σ L st = some r → zGW X m kr (pc + 1) σ L st r) (h : (zpI st fun x r => N σ L (vI x.toInt8.toInt32 :: r)) = some r) : zGW X m kr pc σ L st r := by
  obtain ⟨x, t, rfl, h1⟩ := zpI_some h
  exact (IH _ _ _ _ h1).pure (fun hv => zvs_cons trivial (zvs_st (zvs_tl hv))) (fun p e9 s mi args below meth c H locs ls Q hC ha k => lv_i2b hC.1 hC.2.1 hdg rfl k)
theorem zt_dup {ρ : Type} {X : zX} {m : Nat} {kr : zH → zAV → Option ρ} {pc : Nat} {σ : zH} {L st : List zAV} {r : ρ} {N : zH → List zAV → List zAV → Option ρ} (hdg : decode (mB m) pc = .ok (.dup, 1)) (IH : ∀ σ L st r, N σ L st = some r → zGW X m kr (pc + 1) σ L st r) (h : (zp1 st fun v r => gd (zc1 v) (N σ L (v :: v :: r))) = some r) : zGW X m kr pc σ L st r := by
  obtain ⟨v, t, rfl, h1⟩ := zp1_some h
  obtain ⟨hc, h2⟩ := gd_some h1
  exact (IH _ _ _ _ h2).pure (fun hv => zvs_cons (zvs_hd hv) (zvs_cons (zvs_hd hv) (zvs_st (zvs_tl hv)))) (fun p e9 s mi args below meth c H locs ls Q hC ha k => lv_dup hC.1 hC.2.1 hdg (cV_cat1 hc) k)
theorem zt_pop {ρ : Type} {X : zX} {m : Nat} {kr : zH → zAV → Option ρ} {pc : Nat} {σ : zH} {L st : List zAV} {r : ρ} {N : zH → List zAV → List zAV → Option ρ} (hdg : decode (mB m) pc = .ok (.pop, 1)) (IH : ∀ σ L st r, N σ L st = some r → zGW X m kr (pc + 1) σ L st r) (h : (zp1 st fun v r => gd (zc1 v) (N σ L r)) = some r) : zGW X m kr pc σ L st r := by
  obtain ⟨v, t, rfl, h1⟩ := zp1_some h
  obtain ⟨hc, h2⟩ := gd_some h1
  exact (IH _ _ _ _ h2).pure (fun hv => zvs_st (zvs_tl hv)) (fun p e9 s mi args below meth c H locs ls Q hC ha k => lv_pop hC.1 hC.2.1 hdg (cV_cat1 hc) k)
theorem zt_dup2 {ρ : Type} {X : zX} {m : Nat} {kr : zH → zAV → Option ρ} {pc : Nat} {σ : zH} {L st : List zAV} {r : ρ} {N : zH → List zAV → List zAV → Option ρ} (hdg : decode (mB m) pc = .ok (.dup2, 1)) (IH : ∀ σ L st r, N σ L st = some r → zGW X m kr (pc + 1) σ L st r) (h : (zp1 st fun v r => zp1 r fun w r => gd (zc1 v && zc1 w) (N σ L (v :: w :: v :: w :: r))) = some r) : zGW X m kr pc σ L st r := by
  obtain ⟨v, t, rfl, h1⟩ := zp1_some h
  obtain ⟨w, t, rfl, h2⟩ := zp1_some h1
  obtain ⟨hc, h3⟩ := gd_some h2
  rw [Bool.and_eq_true] at hc
  exact (IH _ _ _ _ h3).pure (fun hv => zvs_cons (zvs_hd hv) (zvs_cons (zvs_hd (zvs_tl hv)) (zvs_cons (zvs_hd hv) (zvs_cons (zvs_hd (zvs_tl hv)) (zvs_st (zvs_tl (zvs_tl hv))))))) (fun p e9 s mi args below meth c H locs ls Q hC ha k => lv_dup2_11 hC.1 hC.2.1 hdg (cV_cat1 hc.1) (cV_cat1 hc.2) k)
theorem zt_goto {ρ : Type} {X : zX} {m : Nat} {kr : zH → zAV → Option ρ} {pc : Nat} {σ : zH} {L st : List zAV} {r : ρ} {N : zH → List zAV → List zAV → Option ρ} {G : Nat → zH → List zAV → List zAV → Option ρ} {off : Int} {t : Nat} (ht : (pc : Int) + off = (t : Int)) (hdg : decode (mB m) pc = .ok (.goto off, 3)) (HG : ∀ t σ L st r, G t σ L st = some r → zGW X m kr t σ L st r) (h : G t σ L st = some r) : zGW X m kr pc σ L st r :=
  (HG _ _ _ _ _ h).pure (fun hv => zvs_st hv) (fun p e9 s mi args below meth c H locs ls Q hC ha k => lv_goto hC.1 hC.2.1 hdg ht k)
/-- both ways of a branch -/
theorem zGW.br {ρ : Type} {X : zX} {m : Nat} {kr : zH → zAV → Option ρ} {pc t1 t2 : Nat} {σ : zH} {L st st' : List zAV} {r : ρ} {P : Prop} (hd : P ∨ ¬ P) (h1 : P → zGW X m kr t1 σ L st' r) (h2 : ¬ P → zGW X m kr t2 σ L st' r) (hv : (∀ v ∈ L ++ st, zval X v) → ∀ v ∈ st', zval X v)
    (hs : ∀ (p : Program) (e : Env) (s : State) (mi : MethodId) (args : Array Value) (below : List Frame) (meth : Method) (c : Code) (H : Heap) (locs : List Loc) (ls : Array Slot) (Q : State → Prop),
      zCx X m p s args mi meth c → zat X m s H locs ls σ L → (P → W p (zl X) e (zrm (mD m)) s mi args below meth c H locs 0 0 Q (F0 mi t1 ls (st'.map (cV (zad X))))) → (¬ P → W p (zl X) e (zrm (mD m)) s mi args below meth c H locs 0 0 Q (F0 mi t2 ls (st'.map (cV (zad X))))) →
      W p (zl X) e (zrm (mD m)) s mi args below meth c H locs 0 0 Q (F0 mi pc ls (st.map (cV (zad X))))) : zGW X m kr pc σ L st r := by
  rcases hd with hp | hp
  · exact (h1 hp).pure hv (fun p e s mi args below meth c H locs ls Q hC ha k => hs p e s mi args below meth c H locs ls Q hC ha (fun _ => k) (fun n => absurd hp n))
  · exact (h2 hp).pure hv (fun p e s mi args below meth c H locs ls Q hC ha k => hs p e s mi args below meth c H locs ls Q hC ha (fun q => absurd q hp) (fun _ => k))
theorem zt_icmp_eq {ρ : Type} {X : zX} {m : Nat} {kr : zH → zAV → Option ρ} {pc : Nat} {σ : zH} {L st : List zAV} {r : ρ} {N : zH → List zAV → List zAV → Option ρ} {G : Nat → zH → List zAV → List zAV → Option ρ} {off : Int} {t : Nat} (ht : (pc : Int) + off = (t : Int)) (hdg : decode (mB m) pc = .ok ((.if_icmp .eq off), 3)) (HG : ∀ t σ L st r, G t σ L st = some r → zGW X m kr t σ L st r) (IH : ∀ σ L st r, N σ L st = some r → zGW X m kr (pc + 3) σ L st r) (h : (zpI st fun y r => zpI r fun x r => zif .eq x y (G t σ L r) (N σ L r)) = some r) : zGW X m kr pc σ L st r := by
  obtain ⟨y, u, rfl, h1⟩ := zpI_some h
  obtain ⟨x, u, rfl, h2⟩ := zpI_some h1
  rw [zif] at h2
  refine zGW.br (P := x = y) (t1 := t) (t2 := pc + 3) (st' := u) (Classical.em _) (fun q => by rw [if_pos q] at h2; exact HG _ _ _ _ _ h2) (fun q => by rw [if_neg q] at h2; exact IH _ _ _ _ h2) (fun hv => zvs_st (zvs_tl (zvs_tl hv))) (fun p e s mi args below meth c H locs ls Q hC ha k1 k2 => ?_)
  exact lv_icmp_eq hC.1 hC.2.1 hdg ht k1 k2
theorem zt_icmp_ne {ρ : Type} {X : zX} {m : Nat} {kr : zH → zAV → Option ρ} {pc : Nat} {σ : zH} {L st : List zAV} {r : ρ} {N : zH → List zAV → List zAV → Option ρ} {G : Nat → zH → List zAV → List zAV → Option ρ} {off : Int} {t : Nat} (ht : (pc : Int) + off = (t : Int)) (hdg : decode (mB m) pc = .ok ((.if_icmp .ne off), 3)) (HG : ∀ t σ L st r, G t σ L st = some r → zGW X m kr t σ L st r) (IH : ∀ σ L st r, N σ L st = some r → zGW X m kr (pc + 3) σ L st r) (h : (zpI st fun y r => zpI r fun x r => zif .ne x y (G t σ L r) (N σ L r)) = some r) : zGW X m kr pc σ L st r := by
  obtain ⟨y, u, rfl, h1⟩ := zpI_some h
  obtain ⟨x, u, rfl, h2⟩ := zpI_some h1
  rw [zif] at h2
  refine zGW.br (P := x = y) (t1 := pc + 3) (t2 := t) (st' := u) (Classical.em _) (fun q => by rw [if_pos q] at h2; exact IH _ _ _ _ h2) (fun q => by rw [if_neg q] at h2; exact HG _ _ _ _ _ h2) (fun hv => zvs_st (zvs_tl (zvs_tl hv))) (fun p e s mi args below meth c H locs ls Q hC ha k1 k2 => ?_)
  exact lv_icmp_ne hC.1 hC.2.1 hdg ht k2 k1
theorem zt_icmp_lt {ρ : Type} {X : zX} {m : Nat} {kr : zH → zAV → Option ρ} {pc : Nat} {σ : zH} {L st : List zAV} {r : ρ} {N : zH → List zAV → List zAV → Option ρ} {G : Nat → zH → List zAV → List zAV → Option ρ} {off : Int} {t : Nat} (ht : (pc : Int) + off = (t : Int)) (hdg : decode (mB m) pc = .ok ((.if_icmp .lt off), 3)) (HG : ∀ t σ L st r, G t σ L st = some r → zGW X m kr t σ L st r) (IH : ∀ σ L st r, N σ L st = some r → zGW X m kr (pc + 3) σ L st r) (h : (zpI st fun y r => zpI r fun x r => zif .lt x y (G t σ L r) (N σ L r)) = some r) : zGW X m kr pc σ L st r := by
  obtain ⟨y, u, rfl, h1⟩ := zpI_some h
  obtain ⟨x, u, rfl, h2⟩ := zpI_some h1
  rw [zif] at h2
  refine zGW.br (P := x < y) (t1 := t) (t2 := pc + 3) (st' := u) (Classical.em _) (fun q => by rw [if_pos q] at h2; exact HG _ _ _ _ _ h2) (fun q => by rw [if_neg q] at h2; exact IH _ _ _ _ h2) (fun hv => zvs_st (zvs_tl (zvs_tl hv))) (fun p e s mi args below meth c H locs ls Q hC ha k1 k2 => ?_)
  exact lv_icmp_lt hC.1 hC.2.1 hdg ht k1 k2
theorem zt_icmp_ge {ρ : Type} {X : zX} {m : Nat} {kr : zH → zAV → Option ρ} {pc : Nat} {σ : zH} {L st : List zAV} {r : ρ} {N : zH → List zAV → List zAV → Option ρ} {G : Nat → zH → List zAV → List zAV → Option ρ} {off : Int} {t : Nat} (ht : (pc : Int) + off = (t : Int)) (hdg : decode (mB m) pc = .ok ((.if_icmp .ge off), 3)) (HG : ∀ t σ L st r, G t σ L st = some r → zGW X m kr t σ L st r) (IH : ∀ σ L st r, N σ L st = some r → zGW X m kr (pc + 3) σ L st r) (h : (zpI st fun y r => zpI r fun x r => zif .ge x y (G t σ L r) (N σ L r)) = some r) : zGW X m kr pc σ L st r := by
  obtain ⟨y, u, rfl, h1⟩ := zpI_some h
  obtain ⟨x, u, rfl, h2⟩ := zpI_some h1
  rw [zif] at h2
  refine zGW.br (P := x < y) (t1 := pc + 3) (t2 := t) (st' := u) (Classical.em _) (fun q => by rw [if_pos q] at h2; exact IH _ _ _ _ h2) (fun q => by rw [if_neg q] at h2; exact HG _ _ _ _ _ h2) (fun hv => zvs_st (zvs_tl (zvs_tl hv))) (fun p e s mi args below meth c H locs ls Q hC ha k1 k2 => ?_)
  exact lv_icmp_ge hC.1 hC.2.1 hdg ht (fun q => k2 (Int32.not_lt.mpr q)) (fun q => k1 (Int32.not_le.mp q))
theorem zt_icmp_gt {ρ : Type} {X : zX} {m : Nat} {kr : zH → zAV → Option ρ} {pc : Nat} {σ : zH} {L st : List zAV} {r : ρ} {N : zH → List zAV → List zAV → Option ρ} {G : Nat → zH → List zAV → List zAV → Option ρ} {off : Int} {t : Nat} (ht : (pc : Int) + off = (t : Int)) (hdg : decode (mB m) pc = .ok ((.if_icmp .gt off), 3)) (HG : ∀ t σ L st r, G t σ L st = some r → zGW X m kr t σ L st r) (IH : ∀ σ L st r, N σ L st = some r → zGW X m kr (pc + 3) σ L st r) (h : (zpI st fun y r => zpI r fun x r => zif .gt x y (G t σ L r) (N σ L r)) = some r) : zGW X m kr pc σ L st r := by
  obtain ⟨y, u, rfl, h1⟩ := zpI_some h
  obtain ⟨x, u, rfl, h2⟩ := zpI_some h1
  rw [zif] at h2
  refine zGW.br (P := y < x) (t1 := t) (t2 := pc + 3) (st' := u) (Classical.em _) (fun q => by rw [if_pos q] at h2; exact HG _ _ _ _ _ h2) (fun q => by rw [if_neg q] at h2; exact IH _ _ _ _ h2) (fun hv => zvs_st (zvs_tl (zvs_tl hv))) (fun p e s mi args below meth c H locs ls Q hC ha k1 k2 => ?_)
  exact lv_icmp_gt hC.1 hC.2.1 hdg ht k1 k2
theorem zt_icmp_le {ρ : Type} {X : zX} {m : Nat} {kr : zH → zAV → Option ρ} {pc : Nat} {σ : zH} {L st : List zAV} {r : ρ} {N : zH → List zAV → List zAV → Option ρ} {G : Nat → zH → List zAV → List zAV → Option ρ} {off : Int} {t : Nat} (ht : (pc : Int) + off = (t : Int)) (hdg : decode (mB m) pc = .ok ((.if_icmp .le off), 3)) (HG : ∀ t σ L st r, G t σ L st = some r → zGW X m kr t σ L st r) (IH : ∀ σ L st r, N σ L st = some r → zGW X m kr (pc + 3) σ L st r) (h : (zpI st fun y r => zpI r fun x r => zif .le x y (G t σ L r) (N σ L r)) = some r) : zGW X m kr pc σ L st r := by
  obtain ⟨y, u, rfl, h1⟩ := zpI_some h
  obtain ⟨x, u, rfl, h2⟩ := zpI_some h1
  rw [zif] at h2
  refine zGW.br (P := y < x) (t1 := pc + 3) (t2 := t) (st' := u) (Classical.em _) (fun q => by rw [if_pos q] at h2; exact IH _ _ _ _ h2) (fun q => by rw [if_neg q] at h2; exact HG _ _ _ _ _ h2) (fun hv => zvs_st (zvs_tl (zvs_tl hv))) (fun p e s mi args below meth c H locs ls Q hC ha k1 k2 => ?_)
  exact lv_icmp_le hC.1 hC.2.1 hdg ht (fun q => k2 (Int32.not_lt.mpr q)) (fun q => k1 (Int32.not_le.mp q))
theorem zt_if_eq {ρ : Type} {X : zX} {m : Nat} {kr : zH → zAV → Option ρ} {pc : Nat} {σ : zH} {L st : List zAV} {r : ρ} {N : zH → List zAV → List zAV → Option ρ} {G : Nat → zH → List zAV → List zAV → Option ρ} {off : Int} {t : Nat} (ht : (pc : Int) + off = (t : Int)) (hdg : decode (mB m) pc = .ok ((.ifCond .eq off), 3)) (HG : ∀ t σ L st r, G t σ L st = some r → zGW X m kr t σ L st r) (IH : ∀ σ L st r, N σ L st = some r → zGW X m kr (pc + 3) σ L st r) (h : (zpI st fun x r => zif .eq x 0 (G t σ L r) (N σ L r)) = some r) : zGW X m kr pc σ L st r := by
  obtain ⟨x, u, rfl, h1⟩ := zpI_some h
  rw [zif] at h1
  refine zGW.br (P := x = 0) (t1 := t) (t2 := pc + 3) (st' := u) (Classical.em _) (fun q => by rw [if_pos q] at h1; exact HG _ _ _ _ _ h1) (fun q => by rw [if_neg q] at h1; exact IH _ _ _ _ h1) (fun hv => zvs_st (zvs_tl hv)) (fun p e s mi args below meth c H locs ls Q hC ha k1 k2 => ?_)
  exact lv_if_eq hC.1 hC.2.1 hdg ht k1 k2
theorem zt_if_ne {ρ : Type} {X : zX} {m : Nat} {kr : zH → zAV → Option ρ} {pc : Nat} {σ : zH} {L st : List zAV} {r : ρ} {N : zH → List zAV → List zAV → Option ρ} {G : Nat → zH → List zAV → List zAV → Option ρ} {off : Int} {t : Nat} (ht : (pc : Int) + off = (t : Int)) (hdg : decode (mB m) pc = .ok ((.ifCond .ne off), 3)) (HG : ∀ t σ L st r, G t σ L st = some r → zGW X m kr t σ L st r) (IH : ∀ σ L st r, N σ L st = some r → zGW X m kr (pc + 3) σ L st r) (h : (zpI st fun x r => zif .ne x 0 (G t σ L r) (N σ L r)) = some r) : zGW X m kr pc σ L st r := by
  obtain ⟨x, u, rfl, h1⟩ := zpI_some h
  rw [zif] at h1
  refine zGW.br (P := x = 0) (t1 := pc + 3) (t2 := t) (st' := u) (Classical.em _) (fun q => by rw [if_pos q] at h1; exact IH _ _ _ _ h1) (fun q => by rw [if_neg q] at h1; exact HG _ _ _ _ _ h1) (fun hv => zvs_st (zvs_tl hv)) (fun p e s mi args below meth c H locs ls Q hC ha k1 k2 => ?_)
  exact lv_if_ne hC.1 hC.2.1 hdg ht k2 k1
theorem zt_if_lt {ρ : Type} {X : zX} {m : Nat} {kr : zH → zAV → Option ρ} {pc : Nat} {σ : zH} {L st : List zAV} {r : ρ} {N : zH → List zAV → List zAV → Option ρ} {G : Nat → zH → List zAV → List zAV → Option ρ} {off : Int} {t : Nat} (ht : (pc : Int) + off = (t : Int)) (hdg : decode (mB m) pc = .ok ((.ifCond .lt off), 3)) (HG : ∀ t σ L st r, G t σ L st = some r → zGW X m kr t σ L st r) (IH : ∀ σ L st r, N σ L st = some r → zGW X m kr (pc + 3) σ L st r) (h : (zpI st fun x r => zif .lt x 0 (G t σ L r) (N σ L r)) = some r) : zGW X m kr pc σ L st r := by
  obtain ⟨x, u, rfl, h1⟩ := zpI_some h
  rw [zif] at h1
  refine zGW.br (P := x < 0) (t1 := t) (t2 := pc + 3) (st' := u) (Classical.em _) (fun q => by rw [if_pos q] at h1; exact HG _ _ _ _ _ h1) (fun q => by rw [if_neg q] at h1; exact IH _ _ _ _ h1) (fun hv => zvs_st (zvs_tl hv)) (fun p e s mi args below meth c H locs ls Q hC ha k1 k2 => ?_)
  exact lv_if_lt hC.1 hC.2.1 hdg ht k1 k2
theorem zt_if_ge {ρ : Type} {X : zX} {m : Nat} {kr : zH → zAV → Option ρ} {pc : Nat} {σ : zH} {L st : List zAV} {r : ρ} {N : zH → List zAV → List zAV → Option ρ} {G : Nat → zH → List zAV → List zAV → Option ρ} {off : Int} {t : Nat} (ht : (pc : Int) + off = (t : Int)) (hdg : decode (mB m) pc = .ok ((.ifCond .ge off), 3)) (HG : ∀ t σ L st r, G t σ L st = some r → zGW X m kr t σ L st r) (IH : ∀ σ L st r, N σ L st = some r → zGW X m kr (pc + 3) σ L st r) (h : (zpI st fun x r => zif .ge x 0 (G t σ L r) (N σ L r)) = some r) : zGW X m kr pc σ L st r := by
  obtain ⟨x, u, rfl, h1⟩ := zpI_some h
  rw [zif] at h1
  refine zGW.br (P := x < 0) (t1 := pc + 3) (t2 := t) (st' := u) (Classical.em _) (fun q => by rw [if_pos q] at h1; exact IH _ _ _ _ h1) (fun q => by rw [if_neg q] at h1; exact HG _ _ _ _ _ h1) (fun hv => zvs_st (zvs_tl hv)) (fun p e s mi args below meth c H locs ls Q hC ha k1 k2 => ?_)
  exact lv_if_ge hC.1 hC.2.1 hdg ht (fun q => k2 (Int32.not_lt.mpr q)) (fun q => k1 (Int32.not_le.mp q))
theorem zt_if_gt {ρ : Type} {X : zX} {m : Nat} {kr : zH → zAV → Option ρ} {pc : Nat} {σ : zH} {L st : List zAV} {r : ρ} {N : zH → List zAV → List zAV → Option ρ} {G : Nat → zH → List zAV → List zAV → Option ρ} {off : Int} {t : Nat} (ht : (pc : Int) + off = (t : Int)) (hdg : decode (mB m) pc = .ok ((.ifCond .gt off), 3)) (HG : ∀ t σ L st r, G t σ L st = some r → zGW X m kr t σ L st r) (IH : ∀ σ L st r, N σ L st = some r → zGW X m kr (pc + 3) σ L st r) (h : (zpI st fun x r => zif .gt x 0 (G t σ L r) (N σ L r)) = some r) : zGW X m kr pc σ L st r := by
  obtain ⟨x, u, rfl, h1⟩ := zpI_some h
  rw [zif] at h1
  refine zGW.br (P := 0 < x) (t1 := t) (t2 := pc + 3) (st' := u) (Classical.em _) (fun q => by rw [if_pos q] at h1; exact HG _ _ _ _ _ h1) (fun q => by rw [if_neg q] at h1; exact IH _ _ _ _ h1) (fun hv => zvs_st (zvs_tl hv)) (fun p e s mi args below meth c H locs ls Q hC ha k1 k2 => ?_)
  exact lv_if_gt hC.1 hC.2.1 hdg ht k1 k2
theorem zt_if_le {ρ : Type} {X : zX} {m : Nat} {kr : zH → zAV → Option ρ} {pc : Nat} {σ : zH} {L st : List zAV} {r : ρ} {N : zH → List zAV → List zAV → Option ρ} {G : Nat → zH → List zAV → List zAV → Option ρ} {off : Int} {t : Nat} (ht : (pc : Int) + off = (t : Int)) (hdg : decode (mB m) pc = .ok ((.ifCond .le off), 3)) (HG : ∀ t σ L st r, G t σ L st = some r → zGW X m kr t σ L st r) (IH : ∀ σ L st r, N σ L st = some r → zGW X m kr (pc + 3) σ L st r) (h : (zpI st fun x r => zif .le x 0 (G t σ L r) (N σ L r)) = some r) : zGW X m kr pc σ L st r := by
  obtain ⟨x, u, rfl, h1⟩ := zpI_some h
  rw [zif] at h1
  refine zGW.br (P := 0 < x) (t1 := pc + 3) (t2 := t) (st' := u) (Classical.em _) (fun q => by rw [if_pos q] at h1; exact IH _ _ _ _ h1) (fun q => by rw [if_neg q] at h1; exact HG _ _ _ _ _ h1) (fun hv => zvs_st (zvs_tl hv)) (fun p e s mi args below meth c H locs ls Q hC ha k1 k2 => ?_)
  exact lv_if_le hC.1 hC.2.1 hdg ht (fun q => k2 (Int32.not_lt.mpr q)) (fun q => k1 (Int32.not_le.mp q))
