/-! SleepWavesModel.image(I)I -/
def q_X11_image_13 : List zEnt := zE 13 .ireturn 1 :: []
def q_X11_image_12 : List zEnt := zEk 12 (.iconst (-1)) 1 (-1) :: q_X11_image_13
def q_X11_image_9 : List zEnt := zEa 9 (.ifCond .ne 5) 3 14 :: q_X11_image_12
def q_X11_image_6 : List zEnt := zEc 6 (.invokestatic 173) 3 125 3 129 0 :: q_X11_image_9
def q_X11_image_0 : List zEnt := zE 0 (.iload_n 1) 1 :: zE 1 .i2l 1 :: (2, (.lconst 0), 1, (0, 0, 0, 0), (0, 0, 0), 0, 0, []) :: (3, (.ldc2_w 485), 3, (0, 0, 1719, 0), (0, 0, 0), 0, 3, []) :: q_X11_image_6
def q_X11_image_33 : List zEnt := zE 33 .ireturn 1 :: []
def q_X11_image_32 : List zEnt := zE 32 .iaload 1 :: q_X11_image_33
def q_X11_image_27 : List zEnt := zE 27 (.aload_n 0) 1 :: zEf 28 (.getfield 7) 3 11 1 149 (2, 42, 0) :: zEk 31 (.iconst 4) 1 4 :: q_X11_image_32
def q_X11_image_24 : List zEnt := zEc 24 (.invokevirtual 487) 3 216 3 178 1 :: q_X11_image_27
def q_X11_image_21 : List zEnt := zE 21 (.aload_n 0) 1 :: zE 22 (.iload_n 1) 1 :: zEk 23 (.iconst 0) 1 0 :: q_X11_image_24
def q_X11_image_20 : List zEnt := zE 20 .bastore 1 :: q_X11_image_21
def q_X11_image_14 : List zEnt := zE 14 (.aload_n 0) 1 :: zEf 15 (.getfield 166) 3 11 64 212 (2, 91, 0) :: zE 18 (.iload_n 1) 1 :: zEk 19 (.iconst 1) 1 1 :: q_X11_image_20
def b_X11_image : List (Nat × List zEnt) := [(0, q_X11_image_0), (14, q_X11_image_14)]
theorem bk_X11_image : zchB 217 b_X11_image = true := by decide +kernel
noncomputable def cc_X11_image {ρ : Type} : Nat → zH → List zAV → (zH → zAV → Option ρ) → Option ρ := fun n σ av q => if n = 125 then g_X11_in σ av q else if n = 216 then g_X11_carriesAll σ av q else none
theorem cs_X11_image {ρ : Type} {X : zX} (hX : zHX X) : zCS X (cc_X11_image (ρ := ρ)) := by
  intro n σ av q r h hv
  unfold cc_X11_image at h
  by_cases e_X11_in : n = 125
  · rw [if_pos e_X11_in] at h
    subst e_X11_in
    exact c_X11_in hX h hv
  rw [if_neg e_X11_in] at h
  by_cases e_X11_carriesAll : n = 216
  · rw [if_pos e_X11_carriesAll] at h
    subst e_X11_carriesAll
    exact c_X11_carriesAll hX h hv
  rw [if_neg e_X11_carriesAll] at h
  cases h
theorem cl_X11_image_X11_in {ρ : Type} (σ : zH) (av : List zAV) (q : zH → zAV → Option ρ) : cc_X11_image 125 σ av q = g_X11_in σ av q := rfl
theorem cl_X11_image_X11_carriesAll {ρ : Type} (σ : zH) (av : List zAV) (q : zH → zAV → Option ρ) : cc_X11_image 216 σ av q = g_X11_carriesAll σ av q := rfl
theorem hy_X11_image {ρ : Type} {X : zX} (hX : zHX X) : zHY X 217 (cc_X11_image (ρ := ρ)) := zHX.hY hX (cs_X11_image hX) (zmok_all 217 (by decide))
theorem t_X11_image_0 {G : Nat → zH → List zAV → List zAV → Option (zH × Int32)} (es : List zEnt) (σ : zH) (x1 : Int32)  (w2 : Int64) (w3 : Int64) : zev cc_X11_image G 0 krI (zE 0 (.iload_n 1) 1 :: zE 1 .i2l 1 :: (2, (.lconst 0), 1, (0, 0, 0, 0), (0, 0, 0), 0, w2, []) :: (3, (.ldc2_w 485), 3, (0, 0, 1719, 0), (0, 0, 0), 0, w3, []) :: es) σ [vR 11 0, vI x1] [] = zev cc_X11_image G 0 krI es σ [vR 11 0, vI x1] [vL w3, vL w2, vL x1.toInt64] := rfl
theorem t_X11_image_12 {G : Nat → zH → List zAV → List zAV → Option (zH × Int32)} (es : List zEnt) (σ : zH)  (y0 : zAV) (y1 : zAV) (w12 : Int32) : zev cc_X11_image G 0 krI (zEk 12 (.iconst (-1)) 1 w12 :: es) σ [y0, y1] [] = zev cc_X11_image G 0 krI es σ [y0, y1] [vI w12] := rfl
theorem t_X11_image_14 {G : Nat → zH → List zAV → List zAV → Option (zH × Int32)} (es : List zEnt) (σ : zH) (x1 : Int32)  (w19 : Int32) : zev cc_X11_image G 0 krI (zE 14 (.aload_n 0) 1 :: zEf 15 (.getfield 166) 3 11 64 212 (2, 91, 0) :: zE 18 (.iload_n 1) 1 :: zEk 19 (.iconst 1) 1 w19 :: es) σ [vR 11 0, vI x1] [] = zev cc_X11_image G 0 krI es σ [vR 11 0, vI x1] [vI w19, vI x1, vR 91 0] := rfl
theorem t_X11_image_21 {G : Nat → zH → List zAV → List zAV → Option (zH × Int32)} (es : List zEnt) (σ : zH) (x1 : Int32)  (w23 : Int32) : zev cc_X11_image G 0 krI (zE 21 (.aload_n 0) 1 :: zE 22 (.iload_n 1) 1 :: zEk 23 (.iconst 0) 1 w23 :: es) σ [vR 11 0, vI x1] [] = zev cc_X11_image G 0 krI es σ [vR 11 0, vI x1] [vI w23, vI x1, vR 11 0] := rfl
theorem t_X11_image_27 {G : Nat → zH → List zAV → List zAV → Option (zH × Int32)} (es : List zEnt) (σ : zH)  (y1 : zAV) (w31 : Int32) : zev cc_X11_image G 0 krI (zE 27 (.aload_n 0) 1 :: zEf 28 (.getfield 7) 3 11 1 149 (2, 42, 0) :: zEk 31 (.iconst 4) 1 w31 :: es) σ [vR 11 0, y1] [] = zev cc_X11_image G 0 krI es σ [vR 11 0, y1] [vI w31, vR 42 0] := rfl
noncomputable def d_X11_image (σ : zH) (xa1 : Int32) : Option (zH × Int32) :=
  (d_X11_in σ xa1.toInt64 (0 : Int64) (3 : Int64)).bind fun p1 =>
  if p1.2 = 0 then
    some (p1.1, (-1 : Int32))
  else
    ix xa1 4 fun j4 =>
    zlet (uI p1.1 91 0 j4 (1 : Int32)) fun σ2 =>
    (d_X11_carriesAll σ2 xa1 (0 : Int32)).bind fun σ3 =>
    some (σ3, (σ3.1 42 0 4))
theorem e_X11_image (σ : zH) (xa1 : Int32) : d_X11_image σ xa1 = zin cc_X11_image (fun t => none) 0 krI b_X11_image 0 σ [vR 11 0, vI xa1] [] := by
  unfold d_X11_image
  refine Eq.symm ((zin_b (es := q_X11_image_0) rfl).trans ?_)
  refine (t_X11_image_0 _ _ _ _ _).trans ?_
  refine (x_callS rfl rfl rfl rfl).trans ((cl_X11_image_X11_in _ _ _).trans ((gr_X11_in _ _ _ _ _).trans (pbd fun _ => ?_)))
  refine x_if.trans (pif_ne ?_ ?_)
  · refine (zrun_b (es := q_X11_image_14) rfl rfl).trans ?_
    refine (t_X11_image_14 _ _ _ _).trans ?_
    refine ((x_bas2 (N := 4) rfl rfl).trans (tv_l (by decide +kernel))).trans (pix fun _ => plt fun _ => ?_)
    refine (t_X11_image_21 _ _ _ _).trans ?_
    refine (x_callV rfl rfl rfl rfl).trans ((cl_X11_image_X11_carriesAll _ _ _).trans ((gr_X11_carriesAll _ _ _ _).trans (pbd fun _ => ?_)))
    refine (t_X11_image_27 _ _ _ _).trans ?_
    refine ((x_iald (N := 11) rfl rfl).trans (ix_l 4 (by decide +kernel))).trans ?_
    exact x_iret
  · refine (t_X11_image_12 _ _ _ _ _).trans ?_
    exact x_iret
noncomputable def g_X11_image {ρ : Type} (σ : zH) (av : List zAV) (q : zH → zAV → Option ρ) : Option ρ := match av with
  | [.inr (.inr (.inl (11, 0))), .inl xa1] => (d_X11_image σ xa1).bind fun p => q p.1 (vI p.2)
  | _ => none
theorem gr_X11_image {ρ : Type} (σ : zH) (xa1 : Int32) (q : zH → zAV → Option ρ) : g_X11_image σ [vR 11 0, vI xa1] q = (d_X11_image σ xa1).bind fun p => q p.1 (vI p.2) := rfl
theorem c_X11_image {ρ : Type} {X : zX} (hX : zHX X) {σ : zH} {av : List zAV} {q : zH → zAV → Option ρ} {r : ρ} (h : g_X11_image σ av q = some r) (hv : ∀ a ∈ av, zval X a) : zcon X 217 σ av q r := by
  unfold g_X11_image at h
  split at h
  · exact zcon_I (n := 217) (ml := 2) (rc := 0) (st := 0) (kd := 11) (np := 1) (by decide +kernel) (by decide) ⟨_, _, rfl, rfl⟩ (Nat.le_of_ble_eq_true rfl) hv h (fun y h1 => (zin_ok (hy_X11_image hX) bk_X11_image (fun t f hf => by
      cases hf) ((e_X11_image _ _).symm.trans h1)))
  · cases h
/-! SleepWavesModel.back(I)I -/
def q_X11_back_22 : List zEnt := zE 22 .ireturn 1 :: []
def q_X11_back_21 : List zEnt := zEk 21 (.iconst (-1)) 1 (-1) :: q_X11_back_22
def q_X11_back_18 : List zEnt := zEa 18 (.ifCond .ne 5) 3 23 :: q_X11_back_21
def q_X11_back_17 : List zEnt := zE 17 .baload 1 :: q_X11_back_18
def q_X11_back_12 : List zEnt := zE 12 (.aload_n 0) 1 :: zEf 13 (.getfield 166) 3 11 64 212 (2, 91, 0) :: zE 16 (.iload_n 1) 1 :: q_X11_back_17
def q_X11_back_9 : List zEnt := zEa 9 (.ifCond .eq 12) 3 21 :: q_X11_back_12
def q_X11_back_6 : List zEnt := zEc 6 (.invokestatic 173) 3 125 3 129 0 :: q_X11_back_9
def q_X11_back_0 : List zEnt := zE 0 (.iload_n 1) 1 :: zE 1 .i2l 1 :: (2, (.lconst 0), 1, (0, 0, 0, 0), (0, 0, 0), 0, 0, []) :: (3, (.ldc2_w 485), 3, (0, 0, 1719, 0), (0, 0, 0), 0, 3, []) :: q_X11_back_6
def q_X11_back_35 : List zEnt := zE 35 .ireturn 1 :: []
def q_X11_back_34 : List zEnt := zE 34 .iaload 1 :: q_X11_back_35
def q_X11_back_29 : List zEnt := zE 29 (.aload_n 0) 1 :: zEf 30 (.getfield 7) 3 11 1 149 (2, 42, 0) :: zEk 33 (.iconst 4) 1 4 :: q_X11_back_34
def q_X11_back_26 : List zEnt := zEc 26 (.invokevirtual 487) 3 216 3 178 1 :: q_X11_back_29
def q_X11_back_23 : List zEnt := zE 23 (.aload_n 0) 1 :: zE 24 (.iload_n 1) 1 :: zEk 25 (.iconst 1) 1 1 :: q_X11_back_26
def b_X11_back : List (Nat × List zEnt) := [(0, q_X11_back_0), (21, q_X11_back_21), (23, q_X11_back_23)]
theorem bk_X11_back : zchB 218 b_X11_back = true := by decide +kernel
noncomputable def cc_X11_back {ρ : Type} : Nat → zH → List zAV → (zH → zAV → Option ρ) → Option ρ := fun n σ av q => if n = 125 then g_X11_in σ av q else if n = 216 then g_X11_carriesAll σ av q else none
theorem cs_X11_back {ρ : Type} {X : zX} (hX : zHX X) : zCS X (cc_X11_back (ρ := ρ)) := by
  intro n σ av q r h hv
  unfold cc_X11_back at h
  by_cases e_X11_in : n = 125
  · rw [if_pos e_X11_in] at h
    subst e_X11_in
    exact c_X11_in hX h hv
  rw [if_neg e_X11_in] at h
  by_cases e_X11_carriesAll : n = 216
  · rw [if_pos e_X11_carriesAll] at h
    subst e_X11_carriesAll
    exact c_X11_carriesAll hX h hv
  rw [if_neg e_X11_carriesAll] at h
  cases h
theorem cl_X11_back_X11_in {ρ : Type} (σ : zH) (av : List zAV) (q : zH → zAV → Option ρ) : cc_X11_back 125 σ av q = g_X11_in σ av q := rfl
theorem cl_X11_back_X11_carriesAll {ρ : Type} (σ : zH) (av : List zAV) (q : zH → zAV → Option ρ) : cc_X11_back 216 σ av q = g_X11_carriesAll σ av q := rfl
theorem hy_X11_back {ρ : Type} {X : zX} (hX : zHX X) : zHY X 218 (cc_X11_back (ρ := ρ)) := zHX.hY hX (cs_X11_back hX) (zmok_all 218 (by decide))
theorem t_X11_back_0 {G : Nat → zH → List zAV → List zAV → Option (zH × Int32)} (es : List zEnt) (σ : zH) (x1 : Int32)  (w2 : Int64) (w3 : Int64) : zev cc_X11_back G 0 krI (zE 0 (.iload_n 1) 1 :: zE 1 .i2l 1 :: (2, (.lconst 0), 1, (0, 0, 0, 0), (0, 0, 0), 0, w2, []) :: (3, (.ldc2_w 485), 3, (0, 0, 1719, 0), (0, 0, 0), 0, w3, []) :: es) σ [vR 11 0, vI x1] [] = zev cc_X11_back G 0 krI es σ [vR 11 0, vI x1] [vL w3, vL w2, vL x1.toInt64] := rfl
theorem t_X11_back_12 {G : Nat → zH → List zAV → List zAV → Option (zH × Int32)} (es : List zEnt) (σ : zH) (x1 : Int32)   : zev cc_X11_back G 0 krI (zE 12 (.aload_n 0) 1 :: zEf 13 (.getfield 166) 3 11 64 212 (2, 91, 0) :: zE 16 (.iload_n 1) 1 :: es) σ [vR 11 0, vI x1] [] = zev cc_X11_back G 0 krI es σ [vR 11 0, vI x1] [vI x1, vR 91 0] := rfl
theorem t_X11_back_21 {G : Nat → zH → List zAV → List zAV → Option (zH × Int32)} (es : List zEnt) (σ : zH)  (y0 : zAV) (y1 : zAV) (w21 : Int32) : zev cc_X11_back G 0 krI (zEk 21 (.iconst (-1)) 1 w21 :: es) σ [y0, y1] [] = zev cc_X11_back G 0 krI es σ [y0, y1] [vI w21] := rfl
theorem t_X11_back_23 {G : Nat → zH → List zAV → List zAV → Option (zH × Int32)} (es : List zEnt) (σ : zH) (x1 : Int32)  (w25 : Int32) : zev cc_X11_back G 0 krI (zE 23 (.aload_n 0) 1 :: zE 24 (.iload_n 1) 1 :: zEk 25 (.iconst 1) 1 w25 :: es) σ [vR 11 0, vI x1] [] = zev cc_X11_back G 0 krI es σ [vR 11 0, vI x1] [vI w25, vI x1, vR 11 0] := rfl
theorem t_X11_back_29 {G : Nat → zH → List zAV → List zAV → Option (zH × Int32)} (es : List zEnt) (σ : zH)  (y1 : zAV) (w33 : Int32) : zev cc_X11_back G 0 krI (zE 29 (.aload_n 0) 1 :: zEf 30 (.getfield 7) 3 11 1 149 (2, 42, 0) :: zEk 33 (.iconst 4) 1 w33 :: es) σ [vR 11 0, y1] [] = zev cc_X11_back G 0 krI es σ [vR 11 0, y1] [vI w33, vR 42 0] := rfl
noncomputable def d_X11_back (σ : zH) (xa1 : Int32) : Option (zH × Int32) :=
  (d_X11_in σ xa1.toInt64 (0 : Int64) (3 : Int64)).bind fun p1 =>
  if p1.2 = 0 then
    some (p1.1, (-1 : Int32))
  else
    ix xa1 4 fun j2 =>
    if (p1.1.1 91 0 j2) = 0 then
      some (p1.1, (-1 : Int32))
    else
      (d_X11_carriesAll p1.1 xa1 (1 : Int32)).bind fun σ3 =>
      some (σ3, (σ3.1 42 0 4))
theorem e_X11_back (σ : zH) (xa1 : Int32) : d_X11_back σ xa1 = zin cc_X11_back (fun t => none) 0 krI b_X11_back 0 σ [vR 11 0, vI xa1] [] := by
  unfold d_X11_back
  refine Eq.symm ((zin_b (es := q_X11_back_0) rfl).trans ?_)
  refine (t_X11_back_0 _ _ _ _ _).trans ?_
  refine (x_callS rfl rfl rfl rfl).trans ((cl_X11_back_X11_in _ _ _).trans ((gr_X11_in _ _ _ _ _).trans (pbd fun _ => ?_)))
  refine x_if.trans (pif_eq ?_ ?_)
  · refine (zrun_b (es := q_X11_back_21) rfl rfl).trans ?_
    refine (t_X11_back_21 _ _ _ _ _).trans ?_
    exact x_iret
  · refine (t_X11_back_12 _ _ _).trans ?_
    refine (x_bald (N := 4) rfl rfl).trans (pix fun _ => ?_)
    refine x_if.trans (pif_ne ?_ ?_)
    · refine (zrun_b (es := q_X11_back_23) rfl rfl).trans ?_
      refine (t_X11_back_23 _ _ _ _).trans ?_
      refine (x_callV rfl rfl rfl rfl).trans ((cl_X11_back_X11_carriesAll _ _ _).trans ((gr_X11_carriesAll _ _ _ _).trans (pbd fun _ => ?_)))
      refine (t_X11_back_29 _ _ _ _).trans ?_
      refine ((x_iald (N := 11) rfl rfl).trans (ix_l 4 (by decide +kernel))).trans ?_
      exact x_iret
    · refine (t_X11_back_21 _ _ _ _ _).trans ?_
      exact x_iret
noncomputable def g_X11_back {ρ : Type} (σ : zH) (av : List zAV) (q : zH → zAV → Option ρ) : Option ρ := match av with
  | [.inr (.inr (.inl (11, 0))), .inl xa1] => (d_X11_back σ xa1).bind fun p => q p.1 (vI p.2)
  | _ => none
theorem gr_X11_back {ρ : Type} (σ : zH) (xa1 : Int32) (q : zH → zAV → Option ρ) : g_X11_back σ [vR 11 0, vI xa1] q = (d_X11_back σ xa1).bind fun p => q p.1 (vI p.2) := rfl
theorem c_X11_back {ρ : Type} {X : zX} (hX : zHX X) {σ : zH} {av : List zAV} {q : zH → zAV → Option ρ} {r : ρ} (h : g_X11_back σ av q = some r) (hv : ∀ a ∈ av, zval X a) : zcon X 218 σ av q r := by
  unfold g_X11_back at h
  split at h
  · exact zcon_I (n := 218) (ml := 2) (rc := 0) (st := 0) (kd := 11) (np := 1) (by decide +kernel) (by decide) ⟨_, _, rfl, rfl⟩ (Nat.le_of_ble_eq_true rfl) hv h (fun y h1 => (zin_ok (hy_X11_back hX) bk_X11_back (fun t f hf => by
      cases hf) ((e_X11_back _ _).symm.trans h1)))
  · cases h
