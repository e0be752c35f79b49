/-! SleepWaves.drum()I -/
def q_X10_drum_7 : List zEnt := zE 7 .ireturn 1 :: []
def q_X10_drum_4 : List zEnt := zEc 4 (.invokevirtual 158) 3 81 1 77 0 :: q_X10_drum_7
def q_X10_drum_0 : List zEnt := zE 0 (.aload_n 0) 1 :: zEf 1 (.getfield 54) 3 10 6 142 (2, 8, 0) :: q_X10_drum_4
def b_X10_drum : List (Nat × List zEnt) := [(0, q_X10_drum_0)]
theorem bk_X10_drum : zchB 98 b_X10_drum = true := by decide +kernel
noncomputable def cc_X10_drum {ρ : Type} : Nat → zH → List zAV → (zH → zAV → Option ρ) → Option ρ := fun n σ av q => if n = 81 then g_X8_wakeAll σ av q else none
theorem cs_X10_drum {ρ : Type} {X : zX} (hX : zHX X) : zCS X (cc_X10_drum (ρ := ρ)) := by
  intro n σ av q r h hv
  unfold cc_X10_drum at h
  by_cases e_X8_wakeAll : n = 81
  · rw [if_pos e_X8_wakeAll] at h
    subst e_X8_wakeAll
    exact c_X8_wakeAll hX h hv
  rw [if_neg e_X8_wakeAll] at h
  cases h
theorem cl_X10_drum_X8_wakeAll {ρ : Type} (σ : zH) (av : List zAV) (q : zH → zAV → Option ρ) : cc_X10_drum 81 σ av q = g_X8_wakeAll σ av q := rfl
theorem hy_X10_drum {ρ : Type} {X : zX} (hX : zHX X) : zHY X 98 (cc_X10_drum (ρ := ρ)) := zHX.hY hX (cs_X10_drum hX) (zmok_all 98 (by decide))
theorem t_X10_drum_0 {G : Nat → zH → List zAV → List zAV → Option (zH × Int32)} (es : List zEnt) (σ : zH)    : zev cc_X10_drum G 0 krI (zE 0 (.aload_n 0) 1 :: zEf 1 (.getfield 54) 3 10 6 142 (2, 8, 0) :: es) σ [vR 10 0] [] = zev cc_X10_drum G 0 krI es σ [vR 10 0] [vR 8 0] := rfl
noncomputable def d_X10_drum (σ : zH)  : Option (zH × Int32) :=
  (d_X8_wakeAll σ 0).bind fun p1 =>
  some (p1.1, p1.2)
theorem e_X10_drum (σ : zH)  : d_X10_drum σ = zin cc_X10_drum (fun t => none) 0 krI b_X10_drum 0 σ [vR 10 0] [] := by
  unfold d_X10_drum
  refine Eq.symm ((zin_b (es := q_X10_drum_0) rfl).trans ?_)
  refine (t_X10_drum_0 _ _).trans ?_
  refine (x_callV rfl rfl rfl rfl).trans ((cl_X10_drum_X8_wakeAll _ _ _).trans ((gr_X8_wakeAll _ _ _).trans (pbd fun _ => ?_)))
  exact x_iret
noncomputable def g_X10_drum {ρ : Type} (σ : zH) (av : List zAV) (q : zH → zAV → Option ρ) : Option ρ := match av with
  | [.inr (.inr (.inl (10, 0)))] => (d_X10_drum σ).bind fun p => q p.1 (vI p.2)
  | _ => none
theorem gr_X10_drum {ρ : Type} (σ : zH)  (q : zH → zAV → Option ρ) : g_X10_drum σ [vR 10 0] q = (d_X10_drum σ).bind fun p => q p.1 (vI p.2) := rfl
theorem c_X10_drum {ρ : Type} {X : zX} (hX : zHX X) {σ : zH} {av : List zAV} {q : zH → zAV → Option ρ} {r : ρ} (h : g_X10_drum σ av q = some r) (hv : ∀ a ∈ av, zval X a) : zcon X 98 σ av q r := by
  unfold g_X10_drum at h
  split at h
  · exact zcon_I (n := 98) (ml := 1) (rc := 0) (st := 0) (kd := 10) (np := 0) (by decide +kernel) (by decide) ⟨_, _, rfl, rfl⟩ (Nat.le_of_ble_eq_true rfl) hv h (fun y h1 => (zin_ok (hy_X10_drum hX) bk_X10_drum (fun t f hf => by
      cases hf) ((e_X10_drum _).symm.trans h1)))
  · cases h
/-! SleepWaves.feast(I)I -/
def q_X10_feast_11 : List zEnt := zE 11 .ireturn 1 :: []
def q_X10_feast_10 : List zEnt := zEk 10 (.iconst (-1)) 1 (-1) :: q_X10_feast_11
def q_X10_feast_7 : List zEnt := zEa 7 (.if_icmp .le 5) 3 12 :: q_X10_feast_10
def q_X10_feast_4 : List zEnt := zE 4 (.iload_n 1) 1 :: zEk 5 (.bipush 96) 2 96 :: q_X10_feast_7
def q_X10_feast_1 : List zEnt := zEa 1 (.ifCond .lt 9) 3 10 :: q_X10_feast_4
def q_X10_feast_0 : List zEnt := zE 0 (.iload_n 1) 1 :: q_X10_feast_1
def q_X10_feast_35 : List zEnt := zE 35 .ireturn 1 :: []
def q_X10_feast_28 : List zEnt := zE 28 (.aload_n 0) 1 :: zEf 29 (.getfield 54) 3 10 6 142 (2, 8, 0) :: zEf 32 (.getfield 161) 3 8 3 95 (0, 0, 0) :: q_X10_feast_35
def q_X10_feast_25 : List zEnt := zEf 25 (.putfield 161) 3 8 3 95 (0, 0, 0) :: q_X10_feast_28
def q_X10_feast_12 : List zEnt := zE 12 (.aload_n 0) 1 :: zEf 13 (.getfield 54) 3 10 6 142 (2, 8, 0) :: zE 16 (.aload_n 0) 1 :: zEf 17 (.getfield 54) 3 10 6 142 (2, 8, 0) :: zEf 20 (.getfield 126) 3 8 1 89 (0, 0, 0) :: zE 23 (.iload_n 1) 1 :: zE 24 .iadd 1 :: q_X10_feast_25
def b_X10_feast : List (Nat × List zEnt) := [(0, q_X10_feast_0), (10, q_X10_feast_10), (12, q_X10_feast_12)]
theorem bk_X10_feast : zchB 99 b_X10_feast = true := by decide +kernel
theorem hy_X10_feast {ρ : Type} {X : zX} (hX : zHX X) : zHY X 99 (zc0 (ρ := ρ)) := zHX.hY hX (zc0_ok X) (zmok_all 99 (by decide))
theorem t_X10_feast_0 {G : Nat → zH → List zAV → List zAV → Option (zH × Int32)} (es : List zEnt) (σ : zH) (x1 : Int32)   : zev zc0 G 0 krI (zE 0 (.iload_n 1) 1 :: es) σ [vR 10 0, vI x1] [] = zev zc0 G 0 krI es σ [vR 10 0, vI x1] [vI x1] := rfl
theorem t_X10_feast_4 {G : Nat → zH → List zAV → List zAV → Option (zH × Int32)} (es : List zEnt) (σ : zH) (x1 : Int32)  (w5 : Int32) : zev zc0 G 0 krI (zE 4 (.iload_n 1) 1 :: zEk 5 (.bipush 96) 2 w5 :: es) σ [vR 10 0, vI x1] [] = zev zc0 G 0 krI es σ [vR 10 0, vI x1] [vI w5, vI x1] := rfl
theorem t_X10_feast_10 {G : Nat → zH → List zAV → List zAV → Option (zH × Int32)} (es : List zEnt) (σ : zH)  (y0 : zAV) (y1 : zAV) (w10 : Int32) : zev zc0 G 0 krI (zEk 10 (.iconst (-1)) 1 w10 :: es) σ [y0, y1] [] = zev zc0 G 0 krI es σ [y0, y1] [vI w10] := rfl
theorem t_X10_feast_12 {G : Nat → zH → List zAV → List zAV → Option (zH × Int32)} (es : List zEnt) (σ : zH) (x1 : Int32)   : zev zc0 G 0 krI (zE 12 (.aload_n 0) 1 :: zEf 13 (.getfield 54) 3 10 6 142 (2, 8, 0) :: zE 16 (.aload_n 0) 1 :: zEf 17 (.getfield 54) 3 10 6 142 (2, 8, 0) :: zEf 20 (.getfield 126) 3 8 1 89 (0, 0, 0) :: zE 23 (.iload_n 1) 1 :: zE 24 .iadd 1 :: es) σ [vR 10 0, vI x1] [] = zev zc0 G 0 krI es σ [vR 10 0, vI x1] [vI ((σ.1 8 0 1) + x1), vR 8 0] := rfl
theorem t_X10_feast_28 {G : Nat → zH → List zAV → List zAV → Option (zH × Int32)} (es : List zEnt) (σ : zH)  (y1 : zAV)  : zev zc0 G 0 krI (zE 28 (.aload_n 0) 1 :: zEf 29 (.getfield 54) 3 10 6 142 (2, 8, 0) :: zEf 32 (.getfield 161) 3 8 3 95 (0, 0, 0) :: es) σ [vR 10 0, y1] [] = zev zc0 G 0 krI es σ [vR 10 0, y1] [vI (σ.1 8 0 3)] := rfl
noncomputable def d_X10_feast (σ : zH) (xa1 : Int32) : Option (zH × Int32) :=
  if xa1 < 0 then
    some (σ, (-1 : Int32))
  else
    if (96 : Int32) < xa1 then
      some (σ, (-1 : Int32))
    else
      zlet (uI σ 8 0 3 ((σ.1 8 0 1) + xa1)) fun σ1 =>
      some (σ1, (σ1.1 8 0 3))
theorem e_X10_feast (σ : zH) (xa1 : Int32) : d_X10_feast σ xa1 = zin zc0 (fun t => none) 0 krI b_X10_feast 0 σ [vR 10 0, vI xa1] [] := by
  unfold d_X10_feast
  refine Eq.symm ((zin_b (es := q_X10_feast_0) rfl).trans ?_)
  refine (t_X10_feast_0 _ _ _).trans ?_
  refine x_if.trans (pif_lt ?_ ?_)
  · refine (zrun_b (es := q_X10_feast_10) rfl rfl).trans ?_
    refine (t_X10_feast_10 _ _ _ _ _).trans ?_
    exact x_iret
  · refine (t_X10_feast_4 _ _ _ _).trans ?_
    refine x_icmp.trans (pif_le ?_ ?_)
    · refine (zrun_b (es := q_X10_feast_12) rfl rfl).trans ?_
      refine (t_X10_feast_12 _ _ _).trans ?_
      refine x_pf0.trans (plt fun _ => ?_)
      refine (t_X10_feast_28 _ _ _).trans ?_
      exact x_iret
    · refine (t_X10_feast_10 _ _ _ _ _).trans ?_
      exact x_iret
noncomputable def g_X10_feast {ρ : Type} (σ : zH) (av : List zAV) (q : zH → zAV → Option ρ) : Option ρ := match av with
  | [.inr (.inr (.inl (10, 0))), .inl xa1] => (d_X10_feast σ xa1).bind fun p => q p.1 (vI p.2)
  | _ => none
theorem gr_X10_feast {ρ : Type} (σ : zH) (xa1 : Int32) (q : zH → zAV → Option ρ) : g_X10_feast σ [vR 10 0, vI xa1] q = (d_X10_feast σ xa1).bind fun p => q p.1 (vI p.2) := rfl
theorem c_X10_feast {ρ : Type} {X : zX} (hX : zHX X) {σ : zH} {av : List zAV} {q : zH → zAV → Option ρ} {r : ρ} (h : g_X10_feast σ av q = some r) (hv : ∀ a ∈ av, zval X a) : zcon X 99 σ av q r := by
  unfold g_X10_feast at h
  split at h
  · exact zcon_I (n := 99) (ml := 2) (rc := 0) (st := 0) (kd := 10) (np := 1) (by decide +kernel) (by decide) ⟨_, _, rfl, rfl⟩ (Nat.le_of_ble_eq_true rfl) hv h (fun y h1 => (zin_ok (hy_X10_feast hX) bk_X10_feast (fun t f hf => by
      cases hf) ((e_X10_feast _ _).symm.trans h1)))
  · cases h
/-! SleepWaves.seed(I)I -/
def q_X10_seed_5 : List zEnt := zE 5 .ireturn 1 :: []
def q_X10_seed_4 : List zEnt := zEk 4 (.iconst (-1)) 1 (-1) :: q_X10_seed_5
def q_X10_seed_1 : List zEnt := zEa 1 (.ifCond .ge 5) 3 6 :: q_X10_seed_4
def q_X10_seed_0 : List zEnt := zE 0 (.iload_n 1) 1 :: q_X10_seed_1
def q_X10_seed_23 : List zEnt := zE 23 .ireturn 1 :: []
def q_X10_seed_22 : List zEnt := zE 22 (.iload_n 2) 1 :: q_X10_seed_23
def q_X10_seed_19 : List zEnt := zEf 19 (.putfield 164) 3 8 2 92 (0, 0, 0) :: q_X10_seed_22
def q_X10_seed_6 : List zEnt := zE 6 (.aload_n 0) 1 :: zEf 7 (.getfield 54) 3 10 6 142 (2, 8, 0) :: zEf 10 (.getfield 164) 3 8 2 92 (0, 0, 0) :: zE 13 (.istore_n 2) 1 :: zE 14 (.aload_n 0) 1 :: zEf 15 (.getfield 54) 3 10 6 142 (2, 8, 0) :: zE 18 (.iload_n 1) 1 :: q_X10_seed_19
def b_X10_seed : List (Nat × List zEnt) := [(0, q_X10_seed_0), (6, q_X10_seed_6)]
theorem bk_X10_seed : zchB 100 b_X10_seed = true := by decide +kernel
theorem hy_X10_seed {ρ : Type} {X : zX} (hX : zHX X) : zHY X 100 (zc0 (ρ := ρ)) := zHX.hY hX (zc0_ok X) (zmok_all 100 (by decide))
theorem t_X10_seed_0 {G : Nat → zH → List zAV → List zAV → Option (zH × Int32)} (es : List zEnt) (σ : zH) (x1 : Int32) (y2 : zAV)  : zev zc0 G 0 krI (zE 0 (.iload_n 1) 1 :: es) σ [vR 10 0, vI x1, y2] [] = zev zc0 G 0 krI es σ [vR 10 0, vI x1, y2] [vI x1] := rfl
theorem t_X10_seed_4 {G : Nat → zH → List zAV → List zAV → Option (zH × Int32)} (es : List zEnt) (σ : zH)  (y0 : zAV) (y1 : zAV) (y2 : zAV) (w4 : Int32) : zev zc0 G 0 krI (zEk 4 (.iconst (-1)) 1 w4 :: es) σ [y0, y1, y2] [] = zev zc0 G 0 krI es σ [y0, y1, y2] [vI w4] := rfl
theorem t_X10_seed_6 {G : Nat → zH → List zAV → List zAV → Option (zH × Int32)} (es : List zEnt) (σ : zH) (x1 : Int32) (y2 : zAV)  : zev zc0 G 0 krI (zE 6 (.aload_n 0) 1 :: zEf 7 (.getfield 54) 3 10 6 142 (2, 8, 0) :: zEf 10 (.getfield 164) 3 8 2 92 (0, 0, 0) :: zE 13 (.istore_n 2) 1 :: zE 14 (.aload_n 0) 1 :: zEf 15 (.getfield 54) 3 10 6 142 (2, 8, 0) :: zE 18 (.iload_n 1) 1 :: es) σ [vR 10 0, vI x1, y2] [] = zev zc0 G 0 krI es σ [vR 10 0, vI x1, vI (σ.1 8 0 2)] [vI x1, vR 8 0] := rfl
theorem t_X10_seed_22 {G : Nat → zH → List zAV → List zAV → Option (zH × Int32)} (es : List zEnt) (σ : zH) (x2 : Int32) (y0 : zAV) (y1 : zAV)  : zev zc0 G 0 krI (zE 22 (.iload_n 2) 1 :: es) σ [y0, y1, vI x2] [] = zev zc0 G 0 krI es σ [y0, y1, vI x2] [vI x2] := rfl
noncomputable def d_X10_seed (σ : zH) (xa1 : Int32) : Option (zH × Int32) :=
  if xa1 < 0 then
    some (σ, (-1 : Int32))
  else
    zlet (uI σ 8 0 2 xa1) fun σ1 =>
    some (σ1, (σ.1 8 0 2))
theorem e_X10_seed (σ : zH) (xa1 : Int32) : d_X10_seed σ xa1 = zin zc0 (fun t => none) 0 krI b_X10_seed 0 σ [vR 10 0, vI xa1, vU] [] := by
  unfold d_X10_seed
  refine Eq.symm ((zin_b (es := q_X10_seed_0) rfl).trans ?_)
  refine (t_X10_seed_0 _ _ _ _).trans ?_
  refine x_if.trans (pif_ge ?_ ?_)
  · refine (zrun_b (es := q_X10_seed_6) rfl rfl).trans ?_
    refine (t_X10_seed_6 _ _ _ _).trans ?_
    refine x_pf0.trans (plt fun _ => ?_)
    refine (t_X10_seed_22 _ _ _ _ _).trans ?_
    exact x_iret
  · refine (t_X10_seed_4 _ _ _ _ _ _).trans ?_
    exact x_iret
noncomputable def g_X10_seed {ρ : Type} (σ : zH) (av : List zAV) (q : zH → zAV → Option ρ) : Option ρ := match av with
  | [.inr (.inr (.inl (10, 0))), .inl xa1] => (d_X10_seed σ xa1).bind fun p => q p.1 (vI p.2)
  | _ => none
theorem gr_X10_seed {ρ : Type} (σ : zH) (xa1 : Int32) (q : zH → zAV → Option ρ) : g_X10_seed σ [vR 10 0, vI xa1] q = (d_X10_seed σ xa1).bind fun p => q p.1 (vI p.2) := rfl
theorem c_X10_seed {ρ : Type} {X : zX} (hX : zHX X) {σ : zH} {av : List zAV} {q : zH → zAV → Option ρ} {r : ρ} (h : g_X10_seed σ av q = some r) (hv : ∀ a ∈ av, zval X a) : zcon X 100 σ av q r := by
  unfold g_X10_seed at h
  split at h
  · exact zcon_I (n := 100) (ml := 3) (rc := 0) (st := 0) (kd := 10) (np := 1) (by decide +kernel) (by decide) ⟨_, _, rfl, rfl⟩ (Nat.le_of_ble_eq_true rfl) hv h (fun y h1 => (zin_ok (hy_X10_seed hX) bk_X10_seed (fun t f hf => by
      cases hf) ((e_X10_seed _ _).symm.trans h1)))
  · cases h
/-! SleepWaves.image(I)I -/
def q_X10_image_10 : List zEnt := zE 10 .ireturn 1 :: []
def q_X10_image_9 : List zEnt := zEk 9 (.iconst (-1)) 1 (-1) :: q_X10_image_10
def q_X10_image_6 : List zEnt := zEa 6 (.if_icmp .lt 5) 3 11 :: q_X10_image_9
def q_X10_image_4 : List zEnt := zE 4 (.iload_n 1) 1 :: zEk 5 (.iconst 4) 1 4 :: q_X10_image_6
def q_X10_image_1 : List zEnt := zEa 1 (.ifCond .lt 8) 3 9 :: q_X10_image_4
def q_X10_image_0 : List zEnt := zE 0 (.iload_n 1) 1 :: q_X10_image_1
def q_X10_image_51 : List zEnt := zE 51 .ireturn 1 :: []
def q_X10_image_44 : List zEnt := zE 44 (.aload_n 0) 1 :: zEf 45 (.getfield 54) 3 10 6 142 (2, 8, 0) :: zEf 48 (.getfield 126) 3 8 1 89 (0, 0, 0) :: q_X10_image_51
def q_X10_image_43 : List zEnt := zE 43 .bastore 1 :: q_X10_image_44
def q_X10_image_37 : List zEnt := zE 37 (.aload_n 0) 1 :: zEf 38 (.getfield 73) 3 10 10 146 (2, 41, 0) :: zE 41 (.iload_n 1) 1 :: zEk 42 (.iconst 1) 1 1 :: q_X10_image_43
def q_X10_image_34 : List zEnt := zEc 34 (.invokevirtual 170) 3 53 2 79 1 :: q_X10_image_37
def q_X10_image_30 : List zEnt := zE 30 (.aload_n 0) 1 :: zEf 31 (.getfield 61) 3 10 7 143 (2, 6, 0) :: q_X10_image_34
def q_X10_image_29 : List zEnt := zE 29 .aaload 1 :: q_X10_image_30
def q_X10_image_24 : List zEnt := zE 24 (.aload_n 0) 1 :: zEf 25 (.getfield 69) 3 10 9 145 (2, 40, 0) :: zE 28 (.iload_n 1) 1 :: q_X10_image_29
def q_X10_image_21 : List zEnt := zEc 21 (.invokevirtual 167) 3 72 2 78 1 :: q_X10_image_24
def q_X10_image_17 : List zEnt := zE 17 (.aload_n 0) 1 :: zEf 18 (.getfield 54) 3 10 6 142 (2, 8, 0) :: q_X10_image_21
def q_X10_image_16 : List zEnt := zE 16 .aaload 1 :: q_X10_image_17
def q_X10_image_11 : List zEnt := zE 11 (.aload_n 0) 1 :: zEf 12 (.getfield 65) 3 10 8 144 (2, 39, 0) :: zE 15 (.iload_n 1) 1 :: q_X10_image_16
def b_X10_image : List (Nat × List zEnt) := [(0, q_X10_image_0), (9, q_X10_image_9), (11, q_X10_image_11)]
theorem bk_X10_image : zchB 101 b_X10_image = true := by decide +kernel
noncomputable def cc_X10_image {ρ : Type} : Nat → zH → List zAV → (zH → zAV → Option ρ) → Option ρ := fun n σ av q => if n = 72 then g_X8_copyFrom σ av q else if n = 53 then g_X6_copyFrom σ av q else none
theorem cs_X10_image {ρ : Type} {X : zX} (hX : zHX X) : zCS X (cc_X10_image (ρ := ρ)) := by
  intro n σ av q r h hv
  unfold cc_X10_image at h
  by_cases e_X8_copyFrom : n = 72
  · rw [if_pos e_X8_copyFrom] at h
    subst e_X8_copyFrom
    exact c_X8_copyFrom hX h hv
  rw [if_neg e_X8_copyFrom] at h
  by_cases e_X6_copyFrom : n = 53
  · rw [if_pos e_X6_copyFrom] at h
    subst e_X6_copyFrom
    exact c_X6_copyFrom hX h hv
  rw [if_neg e_X6_copyFrom] at h
  cases h
theorem cl_X10_image_X8_copyFrom {ρ : Type} (σ : zH) (av : List zAV) (q : zH → zAV → Option ρ) : cc_X10_image 72 σ av q = g_X8_copyFrom σ av q := rfl
theorem cl_X10_image_X6_copyFrom {ρ : Type} (σ : zH) (av : List zAV) (q : zH → zAV → Option ρ) : cc_X10_image 53 σ av q = g_X6_copyFrom σ av q := rfl
theorem hy_X10_image {ρ : Type} {X : zX} (hX : zHX X) : zHY X 101 (cc_X10_image (ρ := ρ)) := zHX.hY hX (cs_X10_image hX) (zmok_all 101 (by decide))
theorem t_X10_image_0 {G : Nat → zH → List zAV → List zAV → Option (zH × Int32)} (es : List zEnt) (σ : zH) (x1 : Int32)   : zev cc_X10_image G 0 krI (zE 0 (.iload_n 1) 1 :: es) σ [vR 10 0, vI x1] [] = zev cc_X10_image G 0 krI es σ [vR 10 0, vI x1] [vI x1] := rfl
theorem t_X10_image_4 {G : Nat → zH → List zAV → List zAV → Option (zH × Int32)} (es : List zEnt) (σ : zH) (x1 : Int32)  (w5 : Int32) : zev cc_X10_image G 0 krI (zE 4 (.iload_n 1) 1 :: zEk 5 (.iconst 4) 1 w5 :: es) σ [vR 10 0, vI x1] [] = zev cc_X10_image G 0 krI es σ [vR 10 0, vI x1] [vI w5, vI x1] := rfl
theorem t_X10_image_9 {G : Nat → zH → List zAV → List zAV → Option (zH × Int32)} (es : List zEnt) (σ : zH)  (y0 : zAV) (y1 : zAV) (w9 : Int32) : zev cc_X10_image G 0 krI (zEk 9 (.iconst (-1)) 1 w9 :: es) σ [y0, y1] [] = zev cc_X10_image G 0 krI es σ [y0, y1] [vI w9] := rfl
theorem t_X10_image_11 {G : Nat → zH → List zAV → List zAV → Option (zH × Int32)} (es : List zEnt) (σ : zH) (x1 : Int32)   : zev cc_X10_image G 0 krI (zE 11 (.aload_n 0) 1 :: zEf 12 (.getfield 65) 3 10 8 144 (2, 39, 0) :: zE 15 (.iload_n 1) 1 :: es) σ [vR 10 0, vI x1] [] = zev cc_X10_image G 0 krI es σ [vR 10 0, vI x1] [vI x1, vR 39 0] := rfl
theorem t_X10_image_17 {G : Nat → zH → List zAV → List zAV → Option (zH × Int32)} (es : List zEnt) (σ : zH) (x1 : Int32) (is0 : Nat)   : zev cc_X10_image G 0 krI (zE 17 (.aload_n 0) 1 :: zEf 18 (.getfield 54) 3 10 6 142 (2, 8, 0) :: es) σ [vR 10 0, vI x1] [vR 8 is0] = zev cc_X10_image G 0 krI es σ [vR 10 0, vI x1] [vR 8 0, vR 8 is0] := rfl
theorem t_X10_image_24 {G : Nat → zH → List zAV → List zAV → Option (zH × Int32)} (es : List zEnt) (σ : zH) (x1 : Int32)   : zev cc_X10_image G 0 krI (zE 24 (.aload_n 0) 1 :: zEf 25 (.getfield 69) 3 10 9 145 (2, 40, 0) :: zE 28 (.iload_n 1) 1 :: es) σ [vR 10 0, vI x1] [] = zev cc_X10_image G 0 krI es σ [vR 10 0, vI x1] [vI x1, vR 40 0] := rfl
theorem t_X10_image_30 {G : Nat → zH → List zAV → List zAV → Option (zH × Int32)} (es : List zEnt) (σ : zH) (x1 : Int32) (is0 : Nat)   : zev cc_X10_image G 0 krI (zE 30 (.aload_n 0) 1 :: zEf 31 (.getfield 61) 3 10 7 143 (2, 6, 0) :: es) σ [vR 10 0, vI x1] [vR 6 is0] = zev cc_X10_image G 0 krI es σ [vR 10 0, vI x1] [vR 6 0, vR 6 is0] := rfl
theorem t_X10_image_37 {G : Nat → zH → List zAV → List zAV → Option (zH × Int32)} (es : List zEnt) (σ : zH) (x1 : Int32)  (w42 : Int32) : zev cc_X10_image G 0 krI (zE 37 (.aload_n 0) 1 :: zEf 38 (.getfield 73) 3 10 10 146 (2, 41, 0) :: zE 41 (.iload_n 1) 1 :: zEk 42 (.iconst 1) 1 w42 :: es) σ [vR 10 0, vI x1] [] = zev cc_X10_image G 0 krI es σ [vR 10 0, vI x1] [vI w42, vI x1, vR 41 0] := rfl
theorem t_X10_image_44 {G : Nat → zH → List zAV → List zAV → Option (zH × Int32)} (es : List zEnt) (σ : zH)  (y1 : zAV)  : zev cc_X10_image G 0 krI (zE 44 (.aload_n 0) 1 :: zEf 45 (.getfield 54) 3 10 6 142 (2, 8, 0) :: zEf 48 (.getfield 126) 3 8 1 89 (0, 0, 0) :: es) σ [vR 10 0, y1] [] = zev cc_X10_image G 0 krI es σ [vR 10 0, y1] [vI (σ.1 8 0 1)] := rfl
noncomputable def d_X10_image (σ : zH) (xa1 : Int32) : Option (zH × Int32) :=
  if xa1 < 0 then
    some (σ, (-1 : Int32))
  else
    if xa1 < (4 : Int32) then
      ix xa1 4 fun j1 =>
      (d_X8_copyFrom σ (1 + j1) 0).bind fun σ2 =>
      ix xa1 4 fun j3 =>
      (d_X6_copyFrom σ2 (1 + j3) 0).bind fun σ4 =>
      ix xa1 4 fun j6 =>
      zlet (uI σ4 41 0 j6 (1 : Int32)) fun σ5 =>
      some (σ5, (σ5.1 8 0 1))
    else
      some (σ, (-1 : Int32))
theorem e_X10_image (σ : zH) (xa1 : Int32) : d_X10_image σ xa1 = zin cc_X10_image (fun t => none) 0 krI b_X10_image 0 σ [vR 10 0, vI xa1] [] := by
  unfold d_X10_image
  refine Eq.symm ((zin_b (es := q_X10_image_0) rfl).trans ?_)
  refine (t_X10_image_0 _ _ _).trans ?_
  refine x_if.trans (pif_lt ?_ ?_)
  · refine (zrun_b (es := q_X10_image_9) rfl rfl).trans ?_
    refine (t_X10_image_9 _ _ _ _ _).trans ?_
    exact x_iret
  · refine (t_X10_image_4 _ _ _ _).trans ?_
    refine x_icmp.trans (pif_lt ?_ ?_)
    · refine (zrun_b (es := q_X10_image_11) rfl rfl).trans ?_
      refine (t_X10_image_11 _ _ _).trans ?_
      refine (x_aald (N := 4) rfl rfl rfl rfl).trans (pix fun _ => ?_)
      refine (t_X10_image_17 _ _ _ _).trans ?_
      refine (x_callV rfl rfl rfl rfl).trans ((cl_X10_image_X8_copyFrom _ _ _).trans ((gr_X8_copyFrom _ _ _ _).trans (pbd fun _ => ?_)))
      refine (t_X10_image_24 _ _ _).trans ?_
      refine (x_aald (N := 4) rfl rfl rfl rfl).trans (pix fun _ => ?_)
      refine (t_X10_image_30 _ _ _ _).trans ?_
      refine (x_callV rfl rfl rfl rfl).trans ((cl_X10_image_X6_copyFrom _ _ _).trans ((gr_X6_copyFrom _ _ _ _).trans (pbd fun _ => ?_)))
      refine (t_X10_image_37 _ _ _ _).trans ?_
      refine ((x_bas2 (N := 4) rfl rfl).trans (tv_l (by decide +kernel))).trans (pix fun _ => plt fun _ => ?_)
      refine (t_X10_image_44 _ _ _).trans ?_
      exact x_iret
    · refine (t_X10_image_9 _ _ _ _ _).trans ?_
      exact x_iret
noncomputable def g_X10_image {ρ : Type} (σ : zH) (av : List zAV) (q : zH → zAV → Option ρ) : Option ρ := match av with
  | [.inr (.inr (.inl (10, 0))), .inl xa1] => (d_X10_image σ xa1).bind fun p => q p.1 (vI p.2)
  | _ => none
theorem gr_X10_image {ρ : Type} (σ : zH) (xa1 : Int32) (q : zH → zAV → Option ρ) : g_X10_image σ [vR 10 0, vI xa1] q = (d_X10_image σ xa1).bind fun p => q p.1 (vI p.2) := rfl
theorem c_X10_image {ρ : Type} {X : zX} (hX : zHX X) {σ : zH} {av : List zAV} {q : zH → zAV → Option ρ} {r : ρ} (h : g_X10_image σ av q = some r) (hv : ∀ a ∈ av, zval X a) : zcon X 101 σ av q r := by
  unfold g_X10_image at h
  split at h
  · exact zcon_I (n := 101) (ml := 2) (rc := 0) (st := 0) (kd := 10) (np := 1) (by decide +kernel) (by decide) ⟨_, _, rfl, rfl⟩ (Nat.le_of_ble_eq_true rfl) hv h (fun y h1 => (zin_ok (hy_X10_image hX) bk_X10_image (fun t f hf => by
      cases hf) ((e_X10_image _ _).symm.trans h1)))
  · cases h
/-! SleepWaves.back(I)I -/
def q_X10_back_19 : List zEnt := zE 19 .ireturn 1 :: []
def q_X10_back_18 : List zEnt := zEk 18 (.iconst (-1)) 1 (-1) :: q_X10_back_19
def q_X10_back_15 : List zEnt := zEa 15 (.ifCond .ne 5) 3 20 :: q_X10_back_18
def q_X10_back_14 : List zEnt := zE 14 .baload 1 :: q_X10_back_15
def q_X10_back_9 : List zEnt := zE 9 (.aload_n 0) 1 :: zEf 10 (.getfield 73) 3 10 10 146 (2, 41, 0) :: zE 13 (.iload_n 1) 1 :: q_X10_back_14
def q_X10_back_6 : List zEnt := zEa 6 (.if_icmp .ge 12) 3 18 :: q_X10_back_9
def q_X10_back_4 : List zEnt := zE 4 (.iload_n 1) 1 :: zEk 5 (.iconst 4) 1 4 :: q_X10_back_6
def q_X10_back_1 : List zEnt := zEa 1 (.ifCond .lt 17) 3 18 :: q_X10_back_4
def q_X10_back_0 : List zEnt := zE 0 (.iload_n 1) 1 :: q_X10_back_1
def q_X10_back_53 : List zEnt := zE 53 .ireturn 1 :: []
def q_X10_back_46 : List zEnt := zE 46 (.aload_n 0) 1 :: zEf 47 (.getfield 54) 3 10 6 142 (2, 8, 0) :: zEf 50 (.getfield 126) 3 8 1 89 (0, 0, 0) :: q_X10_back_53
def q_X10_back_43 : List zEnt := zEc 43 (.invokevirtual 170) 3 53 2 79 1 :: q_X10_back_46
def q_X10_back_42 : List zEnt := zE 42 .aaload 1 :: q_X10_back_43
def q_X10_back_33 : List zEnt := zE 33 (.aload_n 0) 1 :: zEf 34 (.getfield 61) 3 10 7 143 (2, 6, 0) :: zE 37 (.aload_n 0) 1 :: zEf 38 (.getfield 69) 3 10 9 145 (2, 40, 0) :: zE 41 (.iload_n 1) 1 :: q_X10_back_42
def q_X10_back_30 : List zEnt := zEc 30 (.invokevirtual 167) 3 72 2 78 1 :: q_X10_back_33
def q_X10_back_29 : List zEnt := zE 29 .aaload 1 :: q_X10_back_30
def q_X10_back_20 : List zEnt := zE 20 (.aload_n 0) 1 :: zEf 21 (.getfield 54) 3 10 6 142 (2, 8, 0) :: zE 24 (.aload_n 0) 1 :: zEf 25 (.getfield 65) 3 10 8 144 (2, 39, 0) :: zE 28 (.iload_n 1) 1 :: q_X10_back_29
def b_X10_back : List (Nat × List zEnt) := [(0, q_X10_back_0), (18, q_X10_back_18), (20, q_X10_back_20)]
theorem bk_X10_back : zchB 102 b_X10_back = true := by decide +kernel
noncomputable def cc_X10_back {ρ : Type} : Nat → zH → List zAV → (zH → zAV → Option ρ) → Option ρ := fun n σ av q => if n = 72 then g_X8_copyFrom σ av q else if n = 53 then g_X6_copyFrom σ av q else none
theorem cs_X10_back {ρ : Type} {X : zX} (hX : zHX X) : zCS X (cc_X10_back (ρ := ρ)) := by
  intro n σ av q r h hv
  unfold cc_X10_back at h
  by_cases e_X8_copyFrom : n = 72
  · rw [if_pos e_X8_copyFrom] at h
    subst e_X8_copyFrom
    exact c_X8_copyFrom hX h hv
  rw [if_neg e_X8_copyFrom] at h
  by_cases e_X6_copyFrom : n = 53
  · rw [if_pos e_X6_copyFrom] at h
    subst e_X6_copyFrom
    exact c_X6_copyFrom hX h hv
  rw [if_neg e_X6_copyFrom] at h
  cases h
theorem cl_X10_back_X8_copyFrom {ρ : Type} (σ : zH) (av : List zAV) (q : zH → zAV → Option ρ) : cc_X10_back 72 σ av q = g_X8_copyFrom σ av q := rfl
theorem cl_X10_back_X6_copyFrom {ρ : Type} (σ : zH) (av : List zAV) (q : zH → zAV → Option ρ) : cc_X10_back 53 σ av q = g_X6_copyFrom σ av q := rfl
theorem hy_X10_back {ρ : Type} {X : zX} (hX : zHX X) : zHY X 102 (cc_X10_back (ρ := ρ)) := zHX.hY hX (cs_X10_back hX) (zmok_all 102 (by decide))
theorem t_X10_back_0 {G : Nat → zH → List zAV → List zAV → Option (zH × Int32)} (es : List zEnt) (σ : zH) (x1 : Int32)   : zev cc_X10_back G 0 krI (zE 0 (.iload_n 1) 1 :: es) σ [vR 10 0, vI x1] [] = zev cc_X10_back G 0 krI es σ [vR 10 0, vI x1] [vI x1] := rfl
theorem t_X10_back_4 {G : Nat → zH → List zAV → List zAV → Option (zH × Int32)} (es : List zEnt) (σ : zH) (x1 : Int32)  (w5 : Int32) : zev cc_X10_back G 0 krI (zE 4 (.iload_n 1) 1 :: zEk 5 (.iconst 4) 1 w5 :: es) σ [vR 10 0, vI x1] [] = zev cc_X10_back G 0 krI es σ [vR 10 0, vI x1] [vI w5, vI x1] := rfl
theorem t_X10_back_9 {G : Nat → zH → List zAV → List zAV → Option (zH × Int32)} (es : List zEnt) (σ : zH) (x1 : Int32)   : zev cc_X10_back G 0 krI (zE 9 (.aload_n 0) 1 :: zEf 10 (.getfield 73) 3 10 10 146 (2, 41, 0) :: zE 13 (.iload_n 1) 1 :: es) σ [vR 10 0, vI x1] [] = zev cc_X10_back G 0 krI es σ [vR 10 0, vI x1] [vI x1, vR 41 0] := rfl
theorem t_X10_back_18 {G : Nat → zH → List zAV → List zAV → Option (zH × Int32)} (es : List zEnt) (σ : zH)  (y0 : zAV) (y1 : zAV) (w18 : Int32) : zev cc_X10_back G 0 krI (zEk 18 (.iconst (-1)) 1 w18 :: es) σ [y0, y1] [] = zev cc_X10_back G 0 krI es σ [y0, y1] [vI w18] := rfl
theorem t_X10_back_20 {G : Nat → zH → List zAV → List zAV → Option (zH × Int32)} (es : List zEnt) (σ : zH) (x1 : Int32)   : zev cc_X10_back G 0 krI (zE 20 (.aload_n 0) 1 :: zEf 21 (.getfield 54) 3 10 6 142 (2, 8, 0) :: zE 24 (.aload_n 0) 1 :: zEf 25 (.getfield 65) 3 10 8 144 (2, 39, 0) :: zE 28 (.iload_n 1) 1 :: es) σ [vR 10 0, vI x1] [] = zev cc_X10_back G 0 krI es σ [vR 10 0, vI x1] [vI x1, vR 39 0, vR 8 0] := rfl
theorem t_X10_back_33 {G : Nat → zH → List zAV → List zAV → Option (zH × Int32)} (es : List zEnt) (σ : zH) (x1 : Int32)   : zev cc_X10_back G 0 krI (zE 33 (.aload_n 0) 1 :: zEf 34 (.getfield 61) 3 10 7 143 (2, 6, 0) :: zE 37 (.aload_n 0) 1 :: zEf 38 (.getfield 69) 3 10 9 145 (2, 40, 0) :: zE 41 (.iload_n 1) 1 :: es) σ [vR 10 0, vI x1] [] = zev cc_X10_back G 0 krI es σ [vR 10 0, vI x1] [vI x1, vR 40 0, vR 6 0] := rfl
theorem t_X10_back_46 {G : Nat → zH → List zAV → List zAV → Option (zH × Int32)} (es : List zEnt) (σ : zH)  (y1 : zAV)  : zev cc_X10_back G 0 krI (zE 46 (.aload_n 0) 1 :: zEf 47 (.getfield 54) 3 10 6 142 (2, 8, 0) :: zEf 50 (.getfield 126) 3 8 1 89 (0, 0, 0) :: es) σ [vR 10 0, y1] [] = zev cc_X10_back G 0 krI es σ [vR 10 0, y1] [vI (σ.1 8 0 1)] := rfl
noncomputable def d_X10_back (σ : zH) (xa1 : Int32) : Option (zH × Int32) :=
  if xa1 < 0 then
    some (σ, (-1 : Int32))
  else
    if xa1 < (4 : Int32) then
      ix xa1 4 fun j1 =>
      if (σ.1 41 0 j1) = 0 then
        some (σ, (-1 : Int32))
      else
        ix xa1 4 fun j2 =>
        (d_X8_copyFrom σ 0 (1 + j2)).bind fun σ3 =>
        ix xa1 4 fun j4 =>
        (d_X6_copyFrom σ3 0 (1 + j4)).bind fun σ5 =>
        some (σ5, (σ5.1 8 0 1))
    else
      some (σ, (-1 : Int32))
theorem e_X10_back (σ : zH) (xa1 : Int32) : d_X10_back σ xa1 = zin cc_X10_back (fun t => none) 0 krI b_X10_back 0 σ [vR 10 0, vI xa1] [] := by
  unfold d_X10_back
  refine Eq.symm ((zin_b (es := q_X10_back_0) rfl).trans ?_)
  refine (t_X10_back_0 _ _ _).trans ?_
  refine x_if.trans (pif_lt ?_ ?_)
  · refine (zrun_b (es := q_X10_back_18) rfl rfl).trans ?_
    refine (t_X10_back_18 _ _ _ _ _).trans ?_
    exact x_iret
  · refine (t_X10_back_4 _ _ _ _).trans ?_
    refine x_icmp.trans (pif_ge ?_ ?_)
    · refine (zrun_b (es := q_X10_back_18) rfl rfl).trans ?_
      refine (t_X10_back_18 _ _ _ _ _).trans ?_
      exact x_iret
    · refine (t_X10_back_9 _ _ _).trans ?_
      refine (x_bald (N := 4) rfl rfl).trans (pix fun _ => ?_)
      refine x_if.trans (pif_ne ?_ ?_)
      · refine (zrun_b (es := q_X10_back_20) rfl rfl).trans ?_
        refine (t_X10_back_20 _ _ _).trans ?_
        refine (x_aald (N := 4) rfl rfl rfl rfl).trans (pix fun _ => ?_)
        refine (x_callV rfl rfl rfl rfl).trans ((cl_X10_back_X8_copyFrom _ _ _).trans ((gr_X8_copyFrom _ _ _ _).trans (pbd fun _ => ?_)))
        refine (t_X10_back_33 _ _ _).trans ?_
        refine (x_aald (N := 4) rfl rfl rfl rfl).trans (pix fun _ => ?_)
        refine (x_callV rfl rfl rfl rfl).trans ((cl_X10_back_X6_copyFrom _ _ _).trans ((gr_X6_copyFrom _ _ _ _).trans (pbd fun _ => ?_)))
        refine (t_X10_back_46 _ _ _).trans ?_
        exact x_iret
      · refine (t_X10_back_18 _ _ _ _ _).trans ?_
        exact x_iret
noncomputable def g_X10_back {ρ : Type} (σ : zH) (av : List zAV) (q : zH → zAV → Option ρ) : Option ρ := match av with
  | [.inr (.inr (.inl (10, 0))), .inl xa1] => (d_X10_back σ xa1).bind fun p => q p.1 (vI p.2)
  | _ => none
theorem gr_X10_back {ρ : Type} (σ : zH) (xa1 : Int32) (q : zH → zAV → Option ρ) : g_X10_back σ [vR 10 0, vI xa1] q = (d_X10_back σ xa1).bind fun p => q p.1 (vI p.2) := rfl
theorem c_X10_back {ρ : Type} {X : zX} (hX : zHX X) {σ : zH} {av : List zAV} {q : zH → zAV → Option ρ} {r : ρ} (h : g_X10_back σ av q = some r) (hv : ∀ a ∈ av, zval X a) : zcon X 102 σ av q r := by
  unfold g_X10_back at h
  split at h
  · exact zcon_I (n := 102) (ml := 2) (rc := 0) (st := 0) (kd := 10) (np := 1) (by decide +kernel) (by decide) ⟨_, _, rfl, rfl⟩ (Nat.le_of_ble_eq_true rfl) hv h (fun y h1 => (zin_ok (hy_X10_back hX) bk_X10_back (fun t f hf => by
      cases hf) ((e_X10_back _ _).symm.trans h1)))
  · cases h
/-! SleepWaves.company(II)I -/
def q_X10_company_9 : List zEnt := zE 9 .ireturn 1 :: []
def q_X10_company_8 : List zEnt := zEk 8 (.iconst (-1)) 1 (-1) :: q_X10_company_9
def q_X10_company_5 : List zEnt := zEa 5 (.ifCond .ne 5) 3 10 :: q_X10_company_8
def q_X10_company_2 : List zEnt := zEc 2 (.invokevirtual 138) 3 123 2 72 0 :: q_X10_company_5
def q_X10_company_0 : List zEnt := zE 0 (.aload_n 0) 1 :: zE 1 (.iload_n 1) 1 :: q_X10_company_2
def q_X10_company_11 : List zEnt := (11, (.tableswitch 165 0 7 #[45, 62, 72, 82, 95, 108, 121, 134]), 45, (176, 0, 0, 0), (0, 0, 0), 0, 0, [(0, 56), (1, 73), (2, 83), (3, 93), (4, 106), (5, 119), (6, 132), (7, 145)]) :: []
def q_X10_company_10 : List zEnt := zE 10 (.iload_n 2) 1 :: q_X10_company_11
def q_X10_company_68 : List zEnt := zEa 68 (.goto 4) 3 72 :: []
def q_X10_company_67 : List zEnt := zEk 67 (.iconst 1) 1 1 :: q_X10_company_68
def q_X10_company_64 : List zEnt := zEa 64 (.ifCond .eq 7) 3 71 :: q_X10_company_67
def q_X10_company_61 : List zEnt := zEc 61 (.invokevirtual 141) 3 73 2 73 0 :: q_X10_company_64
def q_X10_company_56 : List zEnt := zE 56 (.aload_n 0) 1 :: zEf 57 (.getfield 54) 3 10 6 142 (2, 8, 0) :: zE 60 (.iload_n 1) 1 :: q_X10_company_61
def q_X10_company_72 : List zEnt := zE 72 .ireturn 1 :: []
def q_X10_company_71 : List zEnt := zEk 71 (.iconst 0) 1 0 :: q_X10_company_72
def q_X10_company_82 : List zEnt := zE 82 .ireturn 1 :: []
def q_X10_company_81 : List zEnt := zE 81 .iaload 1 :: q_X10_company_82
def q_X10_company_73 : List zEnt := zE 73 (.aload_n 0) 1 :: zEf 74 (.getfield 54) 3 10 6 142 (2, 8, 0) :: zEf 77 (.getfield 154) 3 8 6 101 (1, 31, 0) :: zE 80 (.iload_n 1) 1 :: q_X10_company_81
def q_X10_company_92 : List zEnt := zE 92 .ireturn 1 :: []
def q_X10_company_91 : List zEnt := zE 91 .iaload 1 :: q_X10_company_92
def q_X10_company_83 : List zEnt := zE 83 (.aload_n 0) 1 :: zEf 84 (.getfield 54) 3 10 6 142 (2, 8, 0) :: zEf 87 (.getfield 173) 3 8 7 103 (1, 32, 0) :: zE 90 (.iload_n 1) 1 :: q_X10_company_91
def q_X10_company_105 : List zEnt := zE 105 .ireturn 1 :: []
def q_X10_company_104 : List zEnt := zE 104 .iaload 1 :: q_X10_company_105
def q_X10_company_93 : List zEnt := zE 93 (.aload_n 0) 1 :: zEf 94 (.getfield 54) 3 10 6 142 (2, 8, 0) :: zEf 97 (.getfield 176) 3 8 0 87 (1, 0, 1) :: zEf 100 (.getfield 179) 3 0 1 39 (1, 12, 0) :: zE 103 (.iload_n 1) 1 :: q_X10_company_104
def q_X10_company_118 : List zEnt := zE 118 .ireturn 1 :: []
def q_X10_company_117 : List zEnt := zE 117 .iaload 1 :: q_X10_company_118
def q_X10_company_106 : List zEnt := zE 106 (.aload_n 0) 1 :: zEf 107 (.getfield 54) 3 10 6 142 (2, 8, 0) :: zEf 110 (.getfield 176) 3 8 0 87 (1, 0, 1) :: zEf 113 (.getfield 182) 3 0 2 43 (1, 13, 0) :: zE 116 (.iload_n 1) 1 :: q_X10_company_117
def q_X10_company_131 : List zEnt := zE 131 .ireturn 1 :: []
def q_X10_company_130 : List zEnt := zE 130 .iaload 1 :: q_X10_company_131
def q_X10_company_119 : List zEnt := zE 119 (.aload_n 0) 1 :: zEf 120 (.getfield 54) 3 10 6 142 (2, 8, 0) :: zEf 123 (.getfield 176) 3 8 0 87 (1, 0, 1) :: zEf 126 (.getfield 185) 3 0 3 50 (1, 14, 0) :: zE 129 (.iload_n 1) 1 :: q_X10_company_130
def q_X10_company_144 : List zEnt := zE 144 .ireturn 1 :: []
def q_X10_company_143 : List zEnt := zE 143 .iaload 1 :: q_X10_company_144
def q_X10_company_132 : List zEnt := zE 132 (.aload_n 0) 1 :: zEf 133 (.getfield 54) 3 10 6 142 (2, 8, 0) :: zEf 136 (.getfield 176) 3 8 0 87 (1, 0, 1) :: zEf 139 (.getfield 188) 3 0 4 53 (1, 15, 0) :: zE 142 (.iload_n 1) 1 :: q_X10_company_143
def q_X10_company_171 : List zEnt := zEa 171 (.goto 4) 3 175 :: []
def q_X10_company_170 : List zEnt := zEk 170 (.iconst 0) 1 0 :: q_X10_company_171
def q_X10_company_167 : List zEnt := zEa 167 (.if_icmp .ne 7) 3 174 :: q_X10_company_170
def q_X10_company_166 : List zEnt := zEk 166 (.iconst (-1)) 1 (-1) :: q_X10_company_167
def q_X10_company_163 : List zEnt := zEc 163 (.invokevirtual 191) 3 3 3 80 0 :: q_X10_company_166
def q_X10_company_162 : List zEnt := zE 162 .irem 1 :: q_X10_company_163
def q_X10_company_145 : List zEnt := zE 145 (.aload_n 0) 1 :: zEf 146 (.getfield 54) 3 10 6 142 (2, 8, 0) :: zEf 149 (.getfield 176) 3 8 0 87 (1, 0, 1) :: zE 152 (.iload_n 1) 1 :: zE 153 (.aload_n 0) 1 :: zEf 154 (.getfield 54) 3 10 6 142 (2, 8, 0) :: zEf 157 (.getfield 126) 3 8 1 89 (0, 0, 0) :: zEk 160 (.bipush 96) 2 96 :: q_X10_company_162
def q_X10_company_175 : List zEnt := zE 175 .ireturn 1 :: []
def q_X10_company_174 : List zEnt := zEk 174 (.iconst 1) 1 1 :: q_X10_company_175
def q_X10_company_177 : List zEnt := zE 177 .ireturn 1 :: []
def q_X10_company_176 : List zEnt := zEk 176 (.iconst (-1)) 1 (-1) :: q_X10_company_177
def b_X10_company : List (Nat × List zEnt) := [(0, q_X10_company_0), (10, q_X10_company_10), (56, q_X10_company_56), (71, q_X10_company_71), (72, q_X10_company_72), (73, q_X10_company_73), (83, q_X10_company_83), (93, q_X10_company_93), (106, q_X10_company_106), (119, q_X10_company_119), (132, q_X10_company_132), (145, q_X10_company_145), (174, q_X10_company_174), (175, q_X10_company_175), (176, q_X10_company_176)]
theorem bk_X10_company : zchB 103 b_X10_company = true := by decide +kernel
noncomputable def cc_X10_company {ρ : Type} : Nat → zH → List zAV → (zH → zAV → Option ρ) → Option ρ := fun n σ av q => if n = 123 then g_X10_isCompany σ av q else if n = 73 then g_X8_isAsleep σ av q else if n = 3 then g_X0_firstDuty σ av q else none
theorem cs_X10_company {ρ : Type} {X : zX} (hX : zHX X) : zCS X (cc_X10_company (ρ := ρ)) := by
  intro n σ av q r h hv
  unfold cc_X10_company at h
  by_cases e_X10_isCompany : n = 123
  · rw [if_pos e_X10_isCompany] at h
    subst e_X10_isCompany
    exact c_X10_isCompany hX h hv
  rw [if_neg e_X10_isCompany] at h
  by_cases e_X8_isAsleep : n = 73
  · rw [if_pos e_X8_isAsleep] at h
    subst e_X8_isAsleep
    exact c_X8_isAsleep hX h hv
  rw [if_neg e_X8_isAsleep] at h
  by_cases e_X0_firstDuty : n = 3
  · rw [if_pos e_X0_firstDuty] at h
    subst e_X0_firstDuty
    exact c_X0_firstDuty hX h hv
  rw [if_neg e_X0_firstDuty] at h
  cases h
theorem cl_X10_company_X10_isCompany {ρ : Type} (σ : zH) (av : List zAV) (q : zH → zAV → Option ρ) : cc_X10_company 123 σ av q = g_X10_isCompany σ av q := rfl
theorem cl_X10_company_X8_isAsleep {ρ : Type} (σ : zH) (av : List zAV) (q : zH → zAV → Option ρ) : cc_X10_company 73 σ av q = g_X8_isAsleep σ av q := rfl
theorem cl_X10_company_X0_firstDuty {ρ : Type} (σ : zH) (av : List zAV) (q : zH → zAV → Option ρ) : cc_X10_company 3 σ av q = g_X0_firstDuty σ av q := rfl
theorem hy_X10_company {ρ : Type} {X : zX} (hX : zHX X) : zHY X 103 (cc_X10_company (ρ := ρ)) := zHX.hY hX (cs_X10_company hX) (zmok_all 103 (by decide))
theorem t_X10_company_0 {G : Nat → zH → List zAV → List zAV → Option (zH × Int32)} (es : List zEnt) (σ : zH) (x1 : Int32) (x2 : Int32)   : zev cc_X10_company G 0 krI (zE 0 (.aload_n 0) 1 :: zE 1 (.iload_n 1) 1 :: es) σ [vR 10 0, vI x1, vI x2] [] = zev cc_X10_company G 0 krI es σ [vR 10 0, vI x1, vI x2] [vI x1, vR 10 0] := rfl
theorem t_X10_company_8 {G : Nat → zH → List zAV → List zAV → Option (zH × Int32)} (es : List zEnt) (σ : zH)  (y0 : zAV) (y1 : zAV) (y2 : zAV) (w8 : Int32) : zev cc_X10_company G 0 krI (zEk 8 (.iconst (-1)) 1 w8 :: es) σ [y0, y1, y2] [] = zev cc_X10_company G 0 krI es σ [y0, y1, y2] [vI w8] := rfl
theorem t_X10_company_10 {G : Nat → zH → List zAV → List zAV → Option (zH × Int32)} (es : List zEnt) (σ : zH) (x1 : Int32) (x2 : Int32)   : zev cc_X10_company G 0 krI (zE 10 (.iload_n 2) 1 :: es) σ [vR 10 0, vI x1, vI x2] [] = zev cc_X10_company G 0 krI es σ [vR 10 0, vI x1, vI x2] [vI x2] := rfl
theorem t_X10_company_56 {G : Nat → zH → List zAV → List zAV → Option (zH × Int32)} (es : List zEnt) (σ : zH) (x1 : Int32) (y2 : zAV)  : zev cc_X10_company G 0 krI (zE 56 (.aload_n 0) 1 :: zEf 57 (.getfield 54) 3 10 6 142 (2, 8, 0) :: zE 60 (.iload_n 1) 1 :: es) σ [vR 10 0, vI x1, y2] [] = zev cc_X10_company G 0 krI es σ [vR 10 0, vI x1, y2] [vI x1, vR 8 0] := rfl
theorem t_X10_company_67 {G : Nat → zH → List zAV → List zAV → Option (zH × Int32)} (es : List zEnt) (σ : zH)  (y0 : zAV) (y1 : zAV) (y2 : zAV) (w67 : Int32) : zev cc_X10_company G 0 krI (zEk 67 (.iconst 1) 1 w67 :: es) σ [y0, y1, y2] [] = zev cc_X10_company G 0 krI es σ [y0, y1, y2] [vI w67] := rfl
theorem t_X10_company_71 {G : Nat → zH → List zAV → List zAV → Option (zH × Int32)} (es : List zEnt) (σ : zH)  (y0 : zAV) (y1 : zAV) (y2 : zAV) (w71 : Int32) : zev cc_X10_company G 0 krI (zEk 71 (.iconst 0) 1 w71 :: es) σ [y0, y1, y2] [] = zev cc_X10_company G 0 krI es σ [y0, y1, y2] [vI w71] := rfl
theorem t_X10_company_73 {G : Nat → zH → List zAV → List zAV → Option (zH × Int32)} (es : List zEnt) (σ : zH) (x1 : Int32) (y2 : zAV)  : zev cc_X10_company G 0 krI (zE 73 (.aload_n 0) 1 :: zEf 74 (.getfield 54) 3 10 6 142 (2, 8, 0) :: zEf 77 (.getfield 154) 3 8 6 101 (1, 31, 0) :: zE 80 (.iload_n 1) 1 :: es) σ [vR 10 0, vI x1, y2] [] = zev cc_X10_company G 0 krI es σ [vR 10 0, vI x1, y2] [vI x1, vR 31 (0 + 0)] := rfl
theorem t_X10_company_83 {G : Nat → zH → List zAV → List zAV → Option (zH × Int32)} (es : List zEnt) (σ : zH) (x1 : Int32) (y2 : zAV)  : zev cc_X10_company G 0 krI (zE 83 (.aload_n 0) 1 :: zEf 84 (.getfield 54) 3 10 6 142 (2, 8, 0) :: zEf 87 (.getfield 173) 3 8 7 103 (1, 32, 0) :: zE 90 (.iload_n 1) 1 :: es) σ [vR 10 0, vI x1, y2] [] = zev cc_X10_company G 0 krI es σ [vR 10 0, vI x1, y2] [vI x1, vR 32 (0 + 0)] := rfl
theorem t_X10_company_93 {G : Nat → zH → List zAV → List zAV → Option (zH × Int32)} (es : List zEnt) (σ : zH) (x1 : Int32) (y2 : zAV)  : zev cc_X10_company G 0 krI (zE 93 (.aload_n 0) 1 :: zEf 94 (.getfield 54) 3 10 6 142 (2, 8, 0) :: zEf 97 (.getfield 176) 3 8 0 87 (1, 0, 1) :: zEf 100 (.getfield 179) 3 0 1 39 (1, 12, 0) :: zE 103 (.iload_n 1) 1 :: es) σ [vR 10 0, vI x1, y2] [] = zev cc_X10_company G 0 krI es σ [vR 10 0, vI x1, y2] [vI x1, vR 12 ((0 + 1) + 0)] := rfl
theorem t_X10_company_106 {G : Nat → zH → List zAV → List zAV → Option (zH × Int32)} (es : List zEnt) (σ : zH) (x1 : Int32) (y2 : zAV)  : zev cc_X10_company G 0 krI (zE 106 (.aload_n 0) 1 :: zEf 107 (.getfield 54) 3 10 6 142 (2, 8, 0) :: zEf 110 (.getfield 176) 3 8 0 87 (1, 0, 1) :: zEf 113 (.getfield 182) 3 0 2 43 (1, 13, 0) :: zE 116 (.iload_n 1) 1 :: es) σ [vR 10 0, vI x1, y2] [] = zev cc_X10_company G 0 krI es σ [vR 10 0, vI x1, y2] [vI x1, vR 13 ((0 + 1) + 0)] := rfl
theorem t_X10_company_119 {G : Nat → zH → List zAV → List zAV → Option (zH × Int32)} (es : List zEnt) (σ : zH) (x1 : Int32) (y2 : zAV)  : zev cc_X10_company G 0 krI (zE 119 (.aload_n 0) 1 :: zEf 120 (.getfield 54) 3 10 6 142 (2, 8, 0) :: zEf 123 (.getfield 176) 3 8 0 87 (1, 0, 1) :: zEf 126 (.getfield 185) 3 0 3 50 (1, 14, 0) :: zE 129 (.iload_n 1) 1 :: es) σ [vR 10 0, vI x1, y2] [] = zev cc_X10_company G 0 krI es σ [vR 10 0, vI x1, y2] [vI x1, vR 14 ((0 + 1) + 0)] := rfl
theorem t_X10_company_132 {G : Nat → zH → List zAV → List zAV → Option (zH × Int32)} (es : List zEnt) (σ : zH) (x1 : Int32) (y2 : zAV)  : zev cc_X10_company G 0 krI (zE 132 (.aload_n 0) 1 :: zEf 133 (.getfield 54) 3 10 6 142 (2, 8, 0) :: zEf 136 (.getfield 176) 3 8 0 87 (1, 0, 1) :: zEf 139 (.getfield 188) 3 0 4 53 (1, 15, 0) :: zE 142 (.iload_n 1) 1 :: es) σ [vR 10 0, vI x1, y2] [] = zev cc_X10_company G 0 krI es σ [vR 10 0, vI x1, y2] [vI x1, vR 15 ((0 + 1) + 0)] := rfl
theorem t_X10_company_145 {G : Nat → zH → List zAV → List zAV → Option (zH × Int32)} (es : List zEnt) (σ : zH) (x1 : Int32) (y2 : zAV) (w160 : Int32) : zev cc_X10_company G 0 krI (zE 145 (.aload_n 0) 1 :: zEf 146 (.getfield 54) 3 10 6 142 (2, 8, 0) :: zEf 149 (.getfield 176) 3 8 0 87 (1, 0, 1) :: zE 152 (.iload_n 1) 1 :: zE 153 (.aload_n 0) 1 :: zEf 154 (.getfield 54) 3 10 6 142 (2, 8, 0) :: zEf 157 (.getfield 126) 3 8 1 89 (0, 0, 0) :: zEk 160 (.bipush 96) 2 w160 :: es) σ [vR 10 0, vI x1, y2] [] = zev cc_X10_company G 0 krI es σ [vR 10 0, vI x1, y2] [vI w160, vI (σ.1 8 0 1), vI x1, vR 0 (0 + 1)] := rfl
theorem t_X10_company_166 {G : Nat → zH → List zAV → List zAV → Option (zH × Int32)} (es : List zEnt) (σ : zH) (xs0 : Int32) (y0 : zAV) (y1 : zAV) (y2 : zAV) (w166 : Int32) : zev cc_X10_company G 0 krI (zEk 166 (.iconst (-1)) 1 w166 :: es) σ [y0, y1, y2] [vI xs0] = zev cc_X10_company G 0 krI es σ [y0, y1, y2] [vI w166, vI xs0] := rfl
theorem t_X10_company_170 {G : Nat → zH → List zAV → List zAV → Option (zH × Int32)} (es : List zEnt) (σ : zH)  (y0 : zAV) (y1 : zAV) (y2 : zAV) (w170 : Int32) : zev cc_X10_company G 0 krI (zEk 170 (.iconst 0) 1 w170 :: es) σ [y0, y1, y2] [] = zev cc_X10_company G 0 krI es σ [y0, y1, y2] [vI w170] := rfl
theorem t_X10_company_174 {G : Nat → zH → List zAV → List zAV → Option (zH × Int32)} (es : List zEnt) (σ : zH)  (y0 : zAV) (y1 : zAV) (y2 : zAV) (w174 : Int32) : zev cc_X10_company G 0 krI (zEk 174 (.iconst 1) 1 w174 :: es) σ [y0, y1, y2] [] = zev cc_X10_company G 0 krI es σ [y0, y1, y2] [vI w174] := rfl
theorem t_X10_company_176 {G : Nat → zH → List zAV → List zAV → Option (zH × Int32)} (es : List zEnt) (σ : zH)  (y0 : zAV) (y1 : zAV) (y2 : zAV) (w176 : Int32) : zev cc_X10_company G 0 krI (zEk 176 (.iconst (-1)) 1 w176 :: es) σ [y0, y1, y2] [] = zev cc_X10_company G 0 krI es σ [y0, y1, y2] [vI w176] := rfl
noncomputable def d_X10_company (σ : zH) (xa1 : Int32) (xa2 : Int32) : Option (zH × Int32) :=
  (d_X10_isCompany σ xa1).bind fun p1 =>
  if p1.2 = 0 then
    some (p1.1, (-1 : Int32))
  else
    if xa2 = (0 : Int32) then
      (d_X8_isAsleep p1.1 0 xa1).bind fun p2 =>
      if p2.2 = 0 then
        some (p2.1, (0 : Int32))
      else
        some (p2.1, (1 : Int32))
    else if xa2 = (1 : Int32) then
      ix xa1 12 fun j3 =>
      some (p1.1, (p1.1.1 31 (0 + 0) j3))
    else if xa2 = (2 : Int32) then
      ix xa1 12 fun j4 =>
      some (p1.1, (p1.1.1 32 (0 + 0) j4))
    else if xa2 = (3 : Int32) then
      ix xa1 12 fun j5 =>
      some (p1.1, (p1.1.1 12 ((0 + 1) + 0) j5))
    else if xa2 = (4 : Int32) then
      ix xa1 12 fun j6 =>
      some (p1.1, (p1.1.1 13 ((0 + 1) + 0) j6))
    else if xa2 = (5 : Int32) then
      ix xa1 12 fun j7 =>
      some (p1.1, (p1.1.1 14 ((0 + 1) + 0) j7))
    else if xa2 = (6 : Int32) then
      ix xa1 12 fun j8 =>
      some (p1.1, (p1.1.1 15 ((0 + 1) + 0) j8))
    else if xa2 = (7 : Int32) then
      (d_X0_firstDuty p1.1 (0 + 1) xa1 ((p1.1.1 8 0 1) - (p1.1.1 8 0 1) / (96 : Int32) * (96 : Int32))).bind fun p9 =>
      if p9.2 = (-1 : Int32) then
        some (p9.1, (0 : Int32))
      else
        some (p9.1, (1 : Int32))
    else 
      some (p1.1, (-1 : Int32))
theorem e_X10_company (σ : zH) (xa1 : Int32) (xa2 : Int32) : d_X10_company σ xa1 xa2 = zin cc_X10_company (fun t => none) 0 krI b_X10_company 0 σ [vR 10 0, vI xa1, vI xa2] [] := by
  unfold d_X10_company
  refine Eq.symm ((zin_b (es := q_X10_company_0) rfl).trans ?_)
  refine (t_X10_company_0 _ _ _ _).trans ?_
  refine (x_callV rfl rfl rfl rfl).trans ((cl_X10_company_X10_isCompany _ _ _).trans ((gr_X10_isCompany _ _ _).trans (pbd fun _ => ?_)))
  refine x_if.trans (pif_ne ?_ ?_)
  · refine (zrun_b (es := q_X10_company_10) rfl rfl).trans ?_
    refine (t_X10_company_10 _ _ _ _).trans ?_
    refine x_tsw.trans ?_
    refine zsw_c ?_ ?_
    · refine (zrun_b (es := q_X10_company_56) rfl rfl).trans ?_
      refine (t_X10_company_56 _ _ _ _).trans ?_
      refine (x_callV rfl rfl rfl rfl).trans ((cl_X10_company_X8_isAsleep _ _ _).trans ((gr_X8_isAsleep _ _ _ _).trans (pbd fun _ => ?_)))
      refine x_if.trans (pif_eq ?_ ?_)
      · refine (zrun_b (es := q_X10_company_71) rfl rfl).trans ?_
        refine (t_X10_company_71 _ _ _ _ _ _).trans ?_
        exact x_iret
      · refine (t_X10_company_67 _ _ _ _ _ _).trans ?_
        refine x_goto.trans ?_
        refine (zrun_b (es := q_X10_company_72) rfl rfl).trans ?_
        exact x_iret
    refine zsw_c ?_ ?_
    · refine (zrun_b (es := q_X10_company_73) rfl rfl).trans ?_
      refine (t_X10_company_73 _ _ _ _).trans ?_
      refine (x_iald (N := 12) rfl rfl).trans (pix fun _ => ?_)
      exact x_iret
    refine zsw_c ?_ ?_
    · refine (zrun_b (es := q_X10_company_83) rfl rfl).trans ?_
      refine (t_X10_company_83 _ _ _ _).trans ?_
      refine (x_iald (N := 12) rfl rfl).trans (pix fun _ => ?_)
      exact x_iret
    refine zsw_c ?_ ?_
    · refine (zrun_b (es := q_X10_company_93) rfl rfl).trans ?_
      refine (t_X10_company_93 _ _ _ _).trans ?_
      refine (x_iald (N := 12) rfl rfl).trans (pix fun _ => ?_)
      exact x_iret
    refine zsw_c ?_ ?_
    · refine (zrun_b (es := q_X10_company_106) rfl rfl).trans ?_
      refine (t_X10_company_106 _ _ _ _).trans ?_
      refine (x_iald (N := 12) rfl rfl).trans (pix fun _ => ?_)
      exact x_iret
    refine zsw_c ?_ ?_
    · refine (zrun_b (es := q_X10_company_119) rfl rfl).trans ?_
      refine (t_X10_company_119 _ _ _ _).trans ?_
      refine (x_iald (N := 12) rfl rfl).trans (pix fun _ => ?_)
      exact x_iret
    refine zsw_c ?_ ?_
    · refine (zrun_b (es := q_X10_company_132) rfl rfl).trans ?_
      refine (t_X10_company_132 _ _ _ _).trans ?_
      refine (x_iald (N := 12) rfl rfl).trans (pix fun _ => ?_)
      exact x_iret
    refine zsw_c ?_ ?_
    · refine (zrun_b (es := q_X10_company_145) rfl rfl).trans ?_
      refine (t_X10_company_145 _ _ _ _ _).trans ?_
      refine (x_irem.trans (nz_l (by decide +kernel))).trans ?_
      refine (x_callV rfl rfl rfl rfl).trans ((cl_X10_company_X0_firstDuty _ _ _).trans ((gr_X0_firstDuty _ _ _ _ _).trans (pbd fun _ => ?_)))
      refine (t_X10_company_166 _ _ _ _ _ _ _).trans ?_
      refine x_icmp.trans (pif_ne ?_ ?_)
      · refine (zrun_b (es := q_X10_company_174) rfl rfl).trans ?_
        refine (t_X10_company_174 _ _ _ _ _ _).trans ?_
        exact x_iret
      · refine (t_X10_company_170 _ _ _ _ _ _).trans ?_
        refine x_goto.trans ?_
        refine (zrun_b (es := q_X10_company_175) rfl rfl).trans ?_
        exact x_iret
    refine zsw_n ?_
    refine (zrun_b (es := q_X10_company_176) rfl rfl).trans ?_
    refine (t_X10_company_176 _ _ _ _ _ _).trans ?_
    exact x_iret
  · refine (t_X10_company_8 _ _ _ _ _ _).trans ?_
    exact x_iret
noncomputable def g_X10_company {ρ : Type} (σ : zH) (av : List zAV) (q : zH → zAV → Option ρ) : Option ρ := match av with
  | [.inr (.inr (.inl (10, 0))), .inl xa1, .inl xa2] => (d_X10_company σ xa1 xa2).bind fun p => q p.1 (vI p.2)
  | _ => none
theorem gr_X10_company {ρ : Type} (σ : zH) (xa1 : Int32) (xa2 : Int32) (q : zH → zAV → Option ρ) : g_X10_company σ [vR 10 0, vI xa1, vI xa2] q = (d_X10_company σ xa1 xa2).bind fun p => q p.1 (vI p.2) := rfl
theorem c_X10_company {ρ : Type} {X : zX} (hX : zHX X) {σ : zH} {av : List zAV} {q : zH → zAV → Option ρ} {r : ρ} (h : g_X10_company σ av q = some r) (hv : ∀ a ∈ av, zval X a) : zcon X 103 σ av q r := by
  unfold g_X10_company at h
  split at h
  · exact zcon_I (n := 103) (ml := 3) (rc := 0) (st := 0) (kd := 10) (np := 2) (by decide +kernel) (by decide) ⟨_, _, rfl, rfl⟩ (Nat.le_of_ble_eq_true rfl) hv h (fun y h1 => (zin_ok (hy_X10_company hX) bk_X10_company (fun t f hf => by
      cases hf) ((e_X10_company _ _ _).symm.trans h1)))
  · cases h
/-! SleepWaves.why(II)I -/
def q_X10_why_10 : List zEnt := zE 10 .ireturn 1 :: []
def q_X10_why_8 : List zEnt := zEk 8 (.bipush (-2)) 2 (-2) :: q_X10_why_10
def q_X10_why_5 : List zEnt := zEa 5 (.ifCond .ne 6) 3 11 :: q_X10_why_8
def q_X10_why_2 : List zEnt := zEc 2 (.invokevirtual 138) 3 123 2 72 0 :: q_X10_why_5
def q_X10_why_0 : List zEnt := zE 0 (.aload_n 0) 1 :: zE 1 (.iload_n 1) 1 :: q_X10_why_2
def q_X10_why_12 : List zEnt := (12, (.tableswitch 58 0 2 #[28, 38, 48]), 28, (70, 0, 0, 0), (0, 0, 0), 0, 0, [(0, 40), (1, 50), (2, 60)]) :: []
def q_X10_why_11 : List zEnt := zE 11 (.iload_n 2) 1 :: q_X10_why_12
def q_X10_why_49 : List zEnt := zE 49 .ireturn 1 :: []
def q_X10_why_48 : List zEnt := zE 48 .iaload 1 :: q_X10_why_49
def q_X10_why_40 : List zEnt := zE 40 (.aload_n 0) 1 :: zEf 41 (.getfield 54) 3 10 6 142 (2, 8, 0) :: zEf 44 (.getfield 195) 3 8 9 106 (1, 34, 0) :: zE 47 (.iload_n 1) 1 :: q_X10_why_48
def q_X10_why_59 : List zEnt := zE 59 .ireturn 1 :: []
def q_X10_why_58 : List zEnt := zE 58 .iaload 1 :: q_X10_why_59
def q_X10_why_50 : List zEnt := zE 50 (.aload_n 0) 1 :: zEf 51 (.getfield 54) 3 10 6 142 (2, 8, 0) :: zEf 54 (.getfield 198) 3 8 10 108 (1, 35, 0) :: zE 57 (.iload_n 1) 1 :: q_X10_why_58
def q_X10_why_69 : List zEnt := zE 69 .ireturn 1 :: []
def q_X10_why_68 : List zEnt := zE 68 .iaload 1 :: q_X10_why_69
def q_X10_why_60 : List zEnt := zE 60 (.aload_n 0) 1 :: zEf 61 (.getfield 54) 3 10 6 142 (2, 8, 0) :: zEf 64 (.getfield 201) 3 8 11 110 (1, 36, 0) :: zE 67 (.iload_n 1) 1 :: q_X10_why_68
def q_X10_why_72 : List zEnt := zE 72 .ireturn 1 :: []
def q_X10_why_70 : List zEnt := zEk 70 (.bipush (-2)) 2 (-2) :: q_X10_why_72
def b_X10_why : List (Nat × List zEnt) := [(0, q_X10_why_0), (11, q_X10_why_11), (40, q_X10_why_40), (50, q_X10_why_50), (60, q_X10_why_60), (70, q_X10_why_70)]
theorem bk_X10_why : zchB 104 b_X10_why = true := by decide +kernel
noncomputable def cc_X10_why {ρ : Type} : Nat → zH → List zAV → (zH → zAV → Option ρ) → Option ρ := fun n σ av q => if n = 123 then g_X10_isCompany σ av q else none
theorem cs_X10_why {ρ : Type} {X : zX} (hX : zHX X) : zCS X (cc_X10_why (ρ := ρ)) := by
  intro n σ av q r h hv
  unfold cc_X10_why at h
  by_cases e_X10_isCompany : n = 123
  · rw [if_pos e_X10_isCompany] at h
    subst e_X10_isCompany
    exact c_X10_isCompany hX h hv
  rw [if_neg e_X10_isCompany] at h
  cases h
theorem cl_X10_why_X10_isCompany {ρ : Type} (σ : zH) (av : List zAV) (q : zH → zAV → Option ρ) : cc_X10_why 123 σ av q = g_X10_isCompany σ av q := rfl
theorem hy_X10_why {ρ : Type} {X : zX} (hX : zHX X) : zHY X 104 (cc_X10_why (ρ := ρ)) := zHX.hY hX (cs_X10_why hX) (zmok_all 104 (by decide))
theorem t_X10_why_0 {G : Nat → zH → List zAV → List zAV → Option (zH × Int32)} (es : List zEnt) (σ : zH) (x1 : Int32) (x2 : Int32)   : zev cc_X10_why G 0 krI (zE 0 (.aload_n 0) 1 :: zE 1 (.iload_n 1) 1 :: es) σ [vR 10 0, vI x1, vI x2] [] = zev cc_X10_why G 0 krI es σ [vR 10 0, vI x1, vI x2] [vI x1, vR 10 0] := rfl
theorem t_X10_why_8 {G : Nat → zH → List zAV → List zAV → Option (zH × Int32)} (es : List zEnt) (σ : zH)  (y0 : zAV) (y1 : zAV) (y2 : zAV) (w8 : Int32) : zev cc_X10_why G 0 krI (zEk 8 (.bipush (-2)) 2 w8 :: es) σ [y0, y1, y2] [] = zev cc_X10_why G 0 krI es σ [y0, y1, y2] [vI w8] := rfl
theorem t_X10_why_11 {G : Nat → zH → List zAV → List zAV → Option (zH × Int32)} (es : List zEnt) (σ : zH) (x1 : Int32) (x2 : Int32)   : zev cc_X10_why G 0 krI (zE 11 (.iload_n 2) 1 :: es) σ [vR 10 0, vI x1, vI x2] [] = zev cc_X10_why G 0 krI es σ [vR 10 0, vI x1, vI x2] [vI x2] := rfl
theorem t_X10_why_40 {G : Nat → zH → List zAV → List zAV → Option (zH × Int32)} (es : List zEnt) (σ : zH) (x1 : Int32) (y2 : zAV)  : zev cc_X10_why G 0 krI (zE 40 (.aload_n 0) 1 :: zEf 41 (.getfield 54) 3 10 6 142 (2, 8, 0) :: zEf 44 (.getfield 195) 3 8 9 106 (1, 34, 0) :: zE 47 (.iload_n 1) 1 :: es) σ [vR 10 0, vI x1, y2] [] = zev cc_X10_why G 0 krI es σ [vR 10 0, vI x1, y2] [vI x1, vR 34 (0 + 0)] := rfl
theorem t_X10_why_50 {G : Nat → zH → List zAV → List zAV → Option (zH × Int32)} (es : List zEnt) (σ : zH) (x1 : Int32) (y2 : zAV)  : zev cc_X10_why G 0 krI (zE 50 (.aload_n 0) 1 :: zEf 51 (.getfield 54) 3 10 6 142 (2, 8, 0) :: zEf 54 (.getfield 198) 3 8 10 108 (1, 35, 0) :: zE 57 (.iload_n 1) 1 :: es) σ [vR 10 0, vI x1, y2] [] = zev cc_X10_why G 0 krI es σ [vR 10 0, vI x1, y2] [vI x1, vR 35 (0 + 0)] := rfl
theorem t_X10_why_60 {G : Nat → zH → List zAV → List zAV → Option (zH × Int32)} (es : List zEnt) (σ : zH) (x1 : Int32) (y2 : zAV)  : zev cc_X10_why G 0 krI (zE 60 (.aload_n 0) 1 :: zEf 61 (.getfield 54) 3 10 6 142 (2, 8, 0) :: zEf 64 (.getfield 201) 3 8 11 110 (1, 36, 0) :: zE 67 (.iload_n 1) 1 :: es) σ [vR 10 0, vI x1, y2] [] = zev cc_X10_why G 0 krI es σ [vR 10 0, vI x1, y2] [vI x1, vR 36 (0 + 0)] := rfl
theorem t_X10_why_70 {G : Nat → zH → List zAV → List zAV → Option (zH × Int32)} (es : List zEnt) (σ : zH)  (y0 : zAV) (y1 : zAV) (y2 : zAV) (w70 : Int32) : zev cc_X10_why G 0 krI (zEk 70 (.bipush (-2)) 2 w70 :: es) σ [y0, y1, y2] [] = zev cc_X10_why G 0 krI es σ [y0, y1, y2] [vI w70] := rfl
noncomputable def d_X10_why (σ : zH) (xa1 : Int32) (xa2 : Int32) : Option (zH × Int32) :=
  (d_X10_isCompany σ xa1).bind fun p1 =>
  if p1.2 = 0 then
    some (p1.1, (-2 : Int32))
  else
    if xa2 = (0 : Int32) then
      ix xa1 12 fun j2 =>
      some (p1.1, (p1.1.1 34 (0 + 0) j2))
    else if xa2 = (1 : Int32) then
      ix xa1 12 fun j3 =>
      some (p1.1, (p1.1.1 35 (0 + 0) j3))
    else if xa2 = (2 : Int32) then
      ix xa1 12 fun j4 =>
      some (p1.1, (p1.1.1 36 (0 + 0) j4))
    else 
      some (p1.1, (-2 : Int32))
theorem e_X10_why (σ : zH) (xa1 : Int32) (xa2 : Int32) : d_X10_why σ xa1 xa2 = zin cc_X10_why (fun t => none) 0 krI b_X10_why 0 σ [vR 10 0, vI xa1, vI xa2] [] := by
  unfold d_X10_why
  refine Eq.symm ((zin_b (es := q_X10_why_0) rfl).trans ?_)
  refine (t_X10_why_0 _ _ _ _).trans ?_
  refine (x_callV rfl rfl rfl rfl).trans ((cl_X10_why_X10_isCompany _ _ _).trans ((gr_X10_isCompany _ _ _).trans (pbd fun _ => ?_)))
  refine x_if.trans (pif_ne ?_ ?_)
  · refine (zrun_b (es := q_X10_why_11) rfl rfl).trans ?_
    refine (t_X10_why_11 _ _ _ _).trans ?_
    refine x_tsw.trans ?_
    refine zsw_c ?_ ?_
    · refine (zrun_b (es := q_X10_why_40) rfl rfl).trans ?_
      refine (t_X10_why_40 _ _ _ _).trans ?_
      refine (x_iald (N := 12) rfl rfl).trans (pix fun _ => ?_)
      exact x_iret
    refine zsw_c ?_ ?_
    · refine (zrun_b (es := q_X10_why_50) rfl rfl).trans ?_
      refine (t_X10_why_50 _ _ _ _).trans ?_
      refine (x_iald (N := 12) rfl rfl).trans (pix fun _ => ?_)
      exact x_iret
    refine zsw_c ?_ ?_
    · refine (zrun_b (es := q_X10_why_60) rfl rfl).trans ?_
      refine (t_X10_why_60 _ _ _ _).trans ?_
      refine (x_iald (N := 12) rfl rfl).trans (pix fun _ => ?_)
      exact x_iret
    refine zsw_n ?_
    refine (zrun_b (es := q_X10_why_70) rfl rfl).trans ?_
    refine (t_X10_why_70 _ _ _ _ _ _).trans ?_
    exact x_iret
  · refine (t_X10_why_8 _ _ _ _ _ _).trans ?_
    exact x_iret
noncomputable def g_X10_why {ρ : Type} (σ : zH) (av : List zAV) (q : zH → zAV → Option ρ) : Option ρ := match av with
  | [.inr (.inr (.inl (10, 0))), .inl xa1, .inl xa2] => (d_X10_why σ xa1 xa2).bind fun p => q p.1 (vI p.2)
  | _ => none
theorem gr_X10_why {ρ : Type} (σ : zH) (xa1 : Int32) (xa2 : Int32) (q : zH → zAV → Option ρ) : g_X10_why σ [vR 10 0, vI xa1, vI xa2] q = (d_X10_why σ xa1 xa2).bind fun p => q p.1 (vI p.2) := rfl
theorem c_X10_why {ρ : Type} {X : zX} (hX : zHX X) {σ : zH} {av : List zAV} {q : zH → zAV → Option ρ} {r : ρ} (h : g_X10_why σ av q = some r) (hv : ∀ a ∈ av, zval X a) : zcon X 104 σ av q r := by
  unfold g_X10_why at h
  split at h
  · exact zcon_I (n := 104) (ml := 3) (rc := 0) (st := 0) (kd := 10) (np := 2) (by decide +kernel) (by decide) ⟨_, _, rfl, rfl⟩ (Nat.le_of_ble_eq_true rfl) hv h (fun y h1 => (zin_ok (hy_X10_why hX) bk_X10_why (fun t f hf => by
      cases hf) ((e_X10_why _ _ _).symm.trans h1)))
  · cases h
/-! SleepWaves.count(I)I -/
def q_X10_count_1 : List zEnt := (1, (.tableswitch 192 0 13 #[71, 82, 93, 104, 109, 117, 125, 133, 141, 149, 157, 165, 173, 181]), 71, (193, 0, 0, 0), (0, 0, 0), 0, 0, [(0, 72), (1, 83), (2, 94), (3, 105), (4, 110), (5, 118), (6, 126), (7, 134), (8, 142), (9, 150), (10, 158), (11, 166), (12, 174), (13, 182)]) :: []
def q_X10_count_0 : List zEnt := zE 0 (.iload_n 1) 1 :: q_X10_count_1
def q_X10_count_82 : List zEnt := zE 82 .ireturn 1 :: []
def q_X10_count_72 : List zEnt := zE 72 (.aload_n 0) 1 :: zEf 73 (.getfield 54) 3 10 6 142 (2, 8, 0) :: zEf 76 (.getfield 176) 3 8 0 87 (1, 0, 1) :: zEf 79 (.getfield 112) 3 0 0 33 (0, 0, 0) :: q_X10_count_82
def q_X10_count_93 : List zEnt := zE 93 .ireturn 1 :: []
def q_X10_count_83 : List zEnt := zE 83 (.aload_n 0) 1 :: zEf 84 (.getfield 54) 3 10 6 142 (2, 8, 0) :: zEf 87 (.getfield 176) 3 8 0 87 (1, 0, 1) :: zEf 90 (.getfield 204) 3 0 5 58 (0, 0, 0) :: q_X10_count_93
def q_X10_count_104 : List zEnt := zE 104 .ireturn 1 :: []
def q_X10_count_94 : List zEnt := zE 94 (.aload_n 0) 1 :: zEf 95 (.getfield 54) 3 10 6 142 (2, 8, 0) :: zEf 98 (.getfield 176) 3 8 0 87 (1, 0, 1) :: zEf 101 (.getfield 207) 3 0 8 66 (0, 0, 0) :: q_X10_count_104
def q_X10_count_109 : List zEnt := zE 109 .ireturn 1 :: []
def q_X10_count_105 : List zEnt := zE 105 (.aload_n 0) 1 :: zEf 106 (.getfield 115) 3 10 5 141 (0, 0, 0) :: q_X10_count_109
def q_X10_count_117 : List zEnt := zE 117 .ireturn 1 :: []
def q_X10_count_110 : List zEnt := zE 110 (.aload_n 0) 1 :: zEf 111 (.getfield 54) 3 10 6 142 (2, 8, 0) :: zEf 114 (.getfield 126) 3 8 1 89 (0, 0, 0) :: q_X10_count_117
def q_X10_count_125 : List zEnt := zE 125 .ireturn 1 :: []
def q_X10_count_118 : List zEnt := zE 118 (.aload_n 0) 1 :: zEf 119 (.getfield 54) 3 10 6 142 (2, 8, 0) :: zEf 122 (.getfield 210) 3 8 5 99 (0, 0, 0) :: q_X10_count_125
def q_X10_count_133 : List zEnt := zE 133 .ireturn 1 :: []
def q_X10_count_126 : List zEnt := zE 126 (.aload_n 0) 1 :: zEf 127 (.getfield 54) 3 10 6 142 (2, 8, 0) :: zEf 130 (.getfield 213) 3 8 12 113 (0, 0, 0) :: q_X10_count_133
def q_X10_count_141 : List zEnt := zE 141 .ireturn 1 :: []
def q_X10_count_134 : List zEnt := zE 134 (.aload_n 0) 1 :: zEf 135 (.getfield 54) 3 10 6 142 (2, 8, 0) :: zEf 138 (.getfield 216) 3 8 13 116 (0, 0, 0) :: q_X10_count_141
def q_X10_count_149 : List zEnt := zE 149 .ireturn 1 :: []
def q_X10_count_142 : List zEnt := zE 142 (.aload_n 0) 1 :: zEf 143 (.getfield 54) 3 10 6 142 (2, 8, 0) :: zEf 146 (.getfield 219) 3 8 15 121 (0, 0, 0) :: q_X10_count_149
def q_X10_count_157 : List zEnt := zE 157 .ireturn 1 :: []
def q_X10_count_150 : List zEnt := zE 150 (.aload_n 0) 1 :: zEf 151 (.getfield 54) 3 10 6 142 (2, 8, 0) :: zEf 154 (.getfield 161) 3 8 3 95 (0, 0, 0) :: q_X10_count_157
def q_X10_count_165 : List zEnt := zE 165 .ireturn 1 :: []
def q_X10_count_158 : List zEnt := zE 158 (.aload_n 0) 1 :: zEf 159 (.getfield 61) 3 10 7 143 (2, 6, 0) :: zEf 162 (.getfield 222) 3 6 2 126 (0, 0, 0) :: q_X10_count_165
def q_X10_count_173 : List zEnt := zE 173 .ireturn 1 :: []
def q_X10_count_166 : List zEnt := zE 166 (.aload_n 0) 1 :: zEf 167 (.getfield 54) 3 10 6 142 (2, 8, 0) :: zEf 170 (.getfield 164) 3 8 2 92 (0, 0, 0) :: q_X10_count_173
def q_X10_count_181 : List zEnt := zE 181 .ireturn 1 :: []
def q_X10_count_174 : List zEnt := zE 174 (.aload_n 0) 1 :: zEf 175 (.getfield 10) 3 10 0 136 (2, 9, 0) :: zEf 178 (.getfield 93) 3 9 1 2 (0, 0, 0) :: q_X10_count_181
def q_X10_count_192 : List zEnt := zE 192 .ireturn 1 :: []
def q_X10_count_182 : List zEnt := zE 182 (.aload_n 0) 1 :: zEf 183 (.getfield 54) 3 10 6 142 (2, 8, 0) :: zEf 186 (.getfield 176) 3 8 0 87 (1, 0, 1) :: zEf 189 (.getfield 223) 3 0 12 75 (0, 0, 0) :: q_X10_count_192
def q_X10_count_194 : List zEnt := zE 194 .ireturn 1 :: []
def q_X10_count_193 : List zEnt := zEk 193 (.iconst (-1)) 1 (-1) :: q_X10_count_194
def b_X10_count : List (Nat × List zEnt) := [(0, q_X10_count_0), (72, q_X10_count_72), (83, q_X10_count_83), (94, q_X10_count_94), (105, q_X10_count_105), (110, q_X10_count_110), (118, q_X10_count_118), (126, q_X10_count_126), (134, q_X10_count_134), (142, q_X10_count_142), (150, q_X10_count_150), (158, q_X10_count_158), (166, q_X10_count_166), (174, q_X10_count_174), (182, q_X10_count_182), (193, q_X10_count_193)]
theorem bk_X10_count : zchB 105 b_X10_count = true := by decide +kernel
theorem hy_X10_count {ρ : Type} {X : zX} (hX : zHX X) : zHY X 105 (zc0 (ρ := ρ)) := zHX.hY hX (zc0_ok X) (zmok_all 105 (by decide))
theorem t_X10_count_0 {G : Nat → zH → List zAV → List zAV → Option (zH × Int32)} (es : List zEnt) (σ : zH) (x1 : Int32)   : zev zc0 G 0 krI (zE 0 (.iload_n 1) 1 :: es) σ [vR 10 0, vI x1] [] = zev zc0 G 0 krI es σ [vR 10 0, vI x1] [vI x1] := rfl
theorem t_X10_count_72 {G : Nat → zH → List zAV → List zAV → Option (zH × Int32)} (es : List zEnt) (σ : zH)  (y1 : zAV)  : zev zc0 G 0 krI (zE 72 (.aload_n 0) 1 :: zEf 73 (.getfield 54) 3 10 6 142 (2, 8, 0) :: zEf 76 (.getfield 176) 3 8 0 87 (1, 0, 1) :: zEf 79 (.getfield 112) 3 0 0 33 (0, 0, 0) :: es) σ [vR 10 0, y1] [] = zev zc0 G 0 krI es σ [vR 10 0, y1] [vI (σ.1 0 (0 + 1) 0)] := rfl
theorem t_X10_count_83 {G : Nat → zH → List zAV → List zAV → Option (zH × Int32)} (es : List zEnt) (σ : zH)  (y1 : zAV)  : zev zc0 G 0 krI (zE 83 (.aload_n 0) 1 :: zEf 84 (.getfield 54) 3 10 6 142 (2, 8, 0) :: zEf 87 (.getfield 176) 3 8 0 87 (1, 0, 1) :: zEf 90 (.getfield 204) 3 0 5 58 (0, 0, 0) :: es) σ [vR 10 0, y1] [] = zev zc0 G 0 krI es σ [vR 10 0, y1] [vI (σ.1 0 (0 + 1) 5)] := rfl
theorem t_X10_count_94 {G : Nat → zH → List zAV → List zAV → Option (zH × Int32)} (es : List zEnt) (σ : zH)  (y1 : zAV)  : zev zc0 G 0 krI (zE 94 (.aload_n 0) 1 :: zEf 95 (.getfield 54) 3 10 6 142 (2, 8, 0) :: zEf 98 (.getfield 176) 3 8 0 87 (1, 0, 1) :: zEf 101 (.getfield 207) 3 0 8 66 (0, 0, 0) :: es) σ [vR 10 0, y1] [] = zev zc0 G 0 krI es σ [vR 10 0, y1] [vI (σ.1 0 (0 + 1) 8)] := rfl
theorem t_X10_count_105 {G : Nat → zH → List zAV → List zAV → Option (zH × Int32)} (es : List zEnt) (σ : zH)  (y1 : zAV)  : zev zc0 G 0 krI (zE 105 (.aload_n 0) 1 :: zEf 106 (.getfield 115) 3 10 5 141 (0, 0, 0) :: es) σ [vR 10 0, y1] [] = zev zc0 G 0 krI es σ [vR 10 0, y1] [vI (σ.1 10 0 5)] := rfl
theorem t_X10_count_110 {G : Nat → zH → List zAV → List zAV → Option (zH × Int32)} (es : List zEnt) (σ : zH)  (y1 : zAV)  : zev zc0 G 0 krI (zE 110 (.aload_n 0) 1 :: zEf 111 (.getfield 54) 3 10 6 142 (2, 8, 0) :: zEf 114 (.getfield 126) 3 8 1 89 (0, 0, 0) :: es) σ [vR 10 0, y1] [] = zev zc0 G 0 krI es σ [vR 10 0, y1] [vI (σ.1 8 0 1)] := rfl
theorem t_X10_count_118 {G : Nat → zH → List zAV → List zAV → Option (zH × Int32)} (es : List zEnt) (σ : zH)  (y1 : zAV)  : zev zc0 G 0 krI (zE 118 (.aload_n 0) 1 :: zEf 119 (.getfield 54) 3 10 6 142 (2, 8, 0) :: zEf 122 (.getfield 210) 3 8 5 99 (0, 0, 0) :: es) σ [vR 10 0, y1] [] = zev zc0 G 0 krI es σ [vR 10 0, y1] [vI (σ.1 8 0 5)] := rfl
theorem t_X10_count_126 {G : Nat → zH → List zAV → List zAV → Option (zH × Int32)} (es : List zEnt) (σ : zH)  (y1 : zAV)  : zev zc0 G 0 krI (zE 126 (.aload_n 0) 1 :: zEf 127 (.getfield 54) 3 10 6 142 (2, 8, 0) :: zEf 130 (.getfield 213) 3 8 12 113 (0, 0, 0) :: es) σ [vR 10 0, y1] [] = zev zc0 G 0 krI es σ [vR 10 0, y1] [vI (σ.1 8 0 12)] := rfl
theorem t_X10_count_134 {G : Nat → zH → List zAV → List zAV → Option (zH × Int32)} (es : List zEnt) (σ : zH)  (y1 : zAV)  : zev zc0 G 0 krI (zE 134 (.aload_n 0) 1 :: zEf 135 (.getfield 54) 3 10 6 142 (2, 8, 0) :: zEf 138 (.getfield 216) 3 8 13 116 (0, 0, 0) :: es) σ [vR 10 0, y1] [] = zev zc0 G 0 krI es σ [vR 10 0, y1] [vI (σ.1 8 0 13)] := rfl
theorem t_X10_count_142 {G : Nat → zH → List zAV → List zAV → Option (zH × Int32)} (es : List zEnt) (σ : zH)  (y1 : zAV)  : zev zc0 G 0 krI (zE 142 (.aload_n 0) 1 :: zEf 143 (.getfield 54) 3 10 6 142 (2, 8, 0) :: zEf 146 (.getfield 219) 3 8 15 121 (0, 0, 0) :: es) σ [vR 10 0, y1] [] = zev zc0 G 0 krI es σ [vR 10 0, y1] [vI (σ.1 8 0 15)] := rfl
theorem t_X10_count_150 {G : Nat → zH → List zAV → List zAV → Option (zH × Int32)} (es : List zEnt) (σ : zH)  (y1 : zAV)  : zev zc0 G 0 krI (zE 150 (.aload_n 0) 1 :: zEf 151 (.getfield 54) 3 10 6 142 (2, 8, 0) :: zEf 154 (.getfield 161) 3 8 3 95 (0, 0, 0) :: es) σ [vR 10 0, y1] [] = zev zc0 G 0 krI es σ [vR 10 0, y1] [vI (σ.1 8 0 3)] := rfl
theorem t_X10_count_158 {G : Nat → zH → List zAV → List zAV → Option (zH × Int32)} (es : List zEnt) (σ : zH)  (y1 : zAV)  : zev zc0 G 0 krI (zE 158 (.aload_n 0) 1 :: zEf 159 (.getfield 61) 3 10 7 143 (2, 6, 0) :: zEf 162 (.getfield 222) 3 6 2 126 (0, 0, 0) :: es) σ [vR 10 0, y1] [] = zev zc0 G 0 krI es σ [vR 10 0, y1] [vI (σ.1 6 0 2)] := rfl
theorem t_X10_count_166 {G : Nat → zH → List zAV → List zAV → Option (zH × Int32)} (es : List zEnt) (σ : zH)  (y1 : zAV)  : zev zc0 G 0 krI (zE 166 (.aload_n 0) 1 :: zEf 167 (.getfield 54) 3 10 6 142 (2, 8, 0) :: zEf 170 (.getfield 164) 3 8 2 92 (0, 0, 0) :: es) σ [vR 10 0, y1] [] = zev zc0 G 0 krI es σ [vR 10 0, y1] [vI (σ.1 8 0 2)] := rfl
theorem t_X10_count_174 {G : Nat → zH → List zAV → List zAV → Option (zH × Int32)} (es : List zEnt) (σ : zH)  (y1 : zAV)  : zev zc0 G 0 krI (zE 174 (.aload_n 0) 1 :: zEf 175 (.getfield 10) 3 10 0 136 (2, 9, 0) :: zEf 178 (.getfield 93) 3 9 1 2 (0, 0, 0) :: es) σ [vR 10 0, y1] [] = zev zc0 G 0 krI es σ [vR 10 0, y1] [vI (σ.1 9 0 1)] := rfl
theorem t_X10_count_182 {G : Nat → zH → List zAV → List zAV → Option (zH × Int32)} (es : List zEnt) (σ : zH)  (y1 : zAV)  : zev zc0 G 0 krI (zE 182 (.aload_n 0) 1 :: zEf 183 (.getfield 54) 3 10 6 142 (2, 8, 0) :: zEf 186 (.getfield 176) 3 8 0 87 (1, 0, 1) :: zEf 189 (.getfield 223) 3 0 12 75 (0, 0, 0) :: es) σ [vR 10 0, y1] [] = zev zc0 G 0 krI es σ [vR 10 0, y1] [vI (σ.1 0 (0 + 1) 12)] := rfl
theorem t_X10_count_193 {G : Nat → zH → List zAV → List zAV → Option (zH × Int32)} (es : List zEnt) (σ : zH)  (y0 : zAV) (y1 : zAV) (w193 : Int32) : zev zc0 G 0 krI (zEk 193 (.iconst (-1)) 1 w193 :: es) σ [y0, y1] [] = zev zc0 G 0 krI es σ [y0, y1] [vI w193] := rfl
noncomputable def d_X10_count (σ : zH) (xa1 : Int32) : Option (zH × Int32) :=
  if xa1 = (0 : Int32) then
    some (σ, (σ.1 0 (0 + 1) 0))
  else if xa1 = (1 : Int32) then
    some (σ, (σ.1 0 (0 + 1) 5))
  else if xa1 = (2 : Int32) then
    some (σ, (σ.1 0 (0 + 1) 8))
  else if xa1 = (3 : Int32) then
    some (σ, (σ.1 10 0 5))
  else if xa1 = (4 : Int32) then
    some (σ, (σ.1 8 0 1))
  else if xa1 = (5 : Int32) then
    some (σ, (σ.1 8 0 5))
  else if xa1 = (6 : Int32) then
    some (σ, (σ.1 8 0 12))
  else if xa1 = (7 : Int32) then
    some (σ, (σ.1 8 0 13))
  else if xa1 = (8 : Int32) then
    some (σ, (σ.1 8 0 15))
  else if xa1 = (9 : Int32) then
    some (σ, (σ.1 8 0 3))
  else if xa1 = (10 : Int32) then
    some (σ, (σ.1 6 0 2))
  else if xa1 = (11 : Int32) then
    some (σ, (σ.1 8 0 2))
  else if xa1 = (12 : Int32) then
    some (σ, (σ.1 9 0 1))
  else if xa1 = (13 : Int32) then
    some (σ, (σ.1 0 (0 + 1) 12))
  else 
    some (σ, (-1 : Int32))
theorem e_X10_count (σ : zH) (xa1 : Int32) : d_X10_count σ xa1 = zin zc0 (fun t => none) 0 krI b_X10_count 0 σ [vR 10 0, vI xa1] [] := by
  unfold d_X10_count
  refine Eq.symm ((zin_b (es := q_X10_count_0) rfl).trans ?_)
  refine (t_X10_count_0 _ _ _).trans ?_
  refine x_tsw.trans ?_
  refine zsw_c ?_ ?_
  · refine (zrun_b (es := q_X10_count_72) rfl rfl).trans ?_
    refine (t_X10_count_72 _ _ _).trans ?_
    exact x_iret
  refine zsw_c ?_ ?_
  · refine (zrun_b (es := q_X10_count_83) rfl rfl).trans ?_
    refine (t_X10_count_83 _ _ _).trans ?_
    exact x_iret
  refine zsw_c ?_ ?_
  · refine (zrun_b (es := q_X10_count_94) rfl rfl).trans ?_
    refine (t_X10_count_94 _ _ _).trans ?_
    exact x_iret
  refine zsw_c ?_ ?_
  · refine (zrun_b (es := q_X10_count_105) rfl rfl).trans ?_
    refine (t_X10_count_105 _ _ _).trans ?_
    exact x_iret
  refine zsw_c ?_ ?_
  · refine (zrun_b (es := q_X10_count_110) rfl rfl).trans ?_
    refine (t_X10_count_110 _ _ _).trans ?_
    exact x_iret
  refine zsw_c ?_ ?_
  · refine (zrun_b (es := q_X10_count_118) rfl rfl).trans ?_
    refine (t_X10_count_118 _ _ _).trans ?_
    exact x_iret
  refine zsw_c ?_ ?_
  · refine (zrun_b (es := q_X10_count_126) rfl rfl).trans ?_
    refine (t_X10_count_126 _ _ _).trans ?_
    exact x_iret
  refine zsw_c ?_ ?_
  · refine (zrun_b (es := q_X10_count_134) rfl rfl).trans ?_
    refine (t_X10_count_134 _ _ _).trans ?_
    exact x_iret
  refine zsw_c ?_ ?_
  · refine (zrun_b (es := q_X10_count_142) rfl rfl).trans ?_
    refine (t_X10_count_142 _ _ _).trans ?_
    exact x_iret
  refine zsw_c ?_ ?_
  · refine (zrun_b (es := q_X10_count_150) rfl rfl).trans ?_
    refine (t_X10_count_150 _ _ _).trans ?_
    exact x_iret
  refine zsw_c ?_ ?_
  · refine (zrun_b (es := q_X10_count_158) rfl rfl).trans ?_
    refine (t_X10_count_158 _ _ _).trans ?_
    exact x_iret
  refine zsw_c ?_ ?_
  · refine (zrun_b (es := q_X10_count_166) rfl rfl).trans ?_
    refine (t_X10_count_166 _ _ _).trans ?_
    exact x_iret
  refine zsw_c ?_ ?_
  · refine (zrun_b (es := q_X10_count_174) rfl rfl).trans ?_
    refine (t_X10_count_174 _ _ _).trans ?_
    exact x_iret
  refine zsw_c ?_ ?_
  · refine (zrun_b (es := q_X10_count_182) rfl rfl).trans ?_
    refine (t_X10_count_182 _ _ _).trans ?_
    exact x_iret
  refine zsw_n ?_
  refine (zrun_b (es := q_X10_count_193) rfl rfl).trans ?_
  refine (t_X10_count_193 _ _ _ _ _).trans ?_
  exact x_iret
noncomputable def g_X10_count {ρ : Type} (σ : zH) (av : List zAV) (q : zH → zAV → Option ρ) : Option ρ := match av with
  | [.inr (.inr (.inl (10, 0))), .inl xa1] => (d_X10_count σ xa1).bind fun p => q p.1 (vI p.2)
  | _ => none
theorem gr_X10_count {ρ : Type} (σ : zH) (xa1 : Int32) (q : zH → zAV → Option ρ) : g_X10_count σ [vR 10 0, vI xa1] q = (d_X10_count σ xa1).bind fun p => q p.1 (vI p.2) := rfl
theorem c_X10_count {ρ : Type} {X : zX} (hX : zHX X) {σ : zH} {av : List zAV} {q : zH → zAV → Option ρ} {r : ρ} (h : g_X10_count σ av q = some r) (hv : ∀ a ∈ av, zval X a) : zcon X 105 σ av q r := by
  unfold g_X10_count at h
  split at h
  · exact zcon_I (n := 105) (ml := 2) (rc := 0) (st := 0) (kd := 10) (np := 1) (by decide +kernel) (by decide) ⟨_, _, rfl, rfl⟩ (Nat.le_of_ble_eq_true rfl) hv h (fun y h1 => (zin_ok (hy_X10_count hX) bk_X10_count (fun t f hf => by
      cases hf) ((e_X10_count _ _).symm.trans h1)))
  · cases h
/-! SleepWaves.log(I)I -/
def q_X10_log_8 : List zEnt := zE 8 .ireturn 1 :: []
def q_X10_log_5 : List zEnt := zEc 5 (.invokevirtual 226) 3 55 2 81 0 :: q_X10_log_8
def q_X10_log_0 : List zEnt := zE 0 (.aload_n 0) 1 :: zEf 1 (.getfield 61) 3 10 7 143 (2, 6, 0) :: zE 4 (.iload_n 1) 1 :: q_X10_log_5
def b_X10_log : List (Nat × List zEnt) := [(0, q_X10_log_0)]
theorem bk_X10_log : zchB 106 b_X10_log = true := by decide +kernel
noncomputable def cc_X10_log {ρ : Type} : Nat → zH → List zAV → (zH → zAV → Option ρ) → Option ρ := fun n σ av q => if n = 55 then g_X6_upAgo σ av q else none
theorem cs_X10_log {ρ : Type} {X : zX} (hX : zHX X) : zCS X (cc_X10_log (ρ := ρ)) := by
  intro n σ av q r h hv
  unfold cc_X10_log at h
  by_cases e_X6_upAgo : n = 55
  · rw [if_pos e_X6_upAgo] at h
    subst e_X6_upAgo
    exact c_X6_upAgo hX h hv
  rw [if_neg e_X6_upAgo] at h
  cases h
theorem cl_X10_log_X6_upAgo {ρ : Type} (σ : zH) (av : List zAV) (q : zH → zAV → Option ρ) : cc_X10_log 55 σ av q = g_X6_upAgo σ av q := rfl
theorem hy_X10_log {ρ : Type} {X : zX} (hX : zHX X) : zHY X 106 (cc_X10_log (ρ := ρ)) := zHX.hY hX (cs_X10_log hX) (zmok_all 106 (by decide))
theorem t_X10_log_0 {G : Nat → zH → List zAV → List zAV → Option (zH × Int32)} (es : List zEnt) (σ : zH) (x1 : Int32)   : zev cc_X10_log G 0 krI (zE 0 (.aload_n 0) 1 :: zEf 1 (.getfield 61) 3 10 7 143 (2, 6, 0) :: zE 4 (.iload_n 1) 1 :: es) σ [vR 10 0, vI x1] [] = zev cc_X10_log G 0 krI es σ [vR 10 0, vI x1] [vI x1, vR 6 0] := rfl
noncomputable def d_X10_log (σ : zH) (xa1 : Int32) : Option (zH × Int32) :=
  (d_X6_upAgo σ 0 xa1).bind fun p1 =>
  some (p1.1, p1.2)
theorem e_X10_log (σ : zH) (xa1 : Int32) : d_X10_log σ xa1 = zin cc_X10_log (fun t => none) 0 krI b_X10_log 0 σ [vR 10 0, vI xa1] [] := by
  unfold d_X10_log
  refine Eq.symm ((zin_b (es := q_X10_log_0) rfl).trans ?_)
  refine (t_X10_log_0 _ _ _).trans ?_
  refine (x_callV rfl rfl rfl rfl).trans ((cl_X10_log_X6_upAgo _ _ _).trans ((gr_X6_upAgo _ _ _ _).trans (pbd fun _ => ?_)))
  exact x_iret
noncomputable def g_X10_log {ρ : Type} (σ : zH) (av : List zAV) (q : zH → zAV → Option ρ) : Option ρ := match av with
  | [.inr (.inr (.inl (10, 0))), .inl xa1] => (d_X10_log σ xa1).bind fun p => q p.1 (vI p.2)
  | _ => none
theorem gr_X10_log {ρ : Type} (σ : zH) (xa1 : Int32) (q : zH → zAV → Option ρ) : g_X10_log σ [vR 10 0, vI xa1] q = (d_X10_log σ xa1).bind fun p => q p.1 (vI p.2) := rfl
theorem c_X10_log {ρ : Type} {X : zX} (hX : zHX X) {σ : zH} {av : List zAV} {q : zH → zAV → Option ρ} {r : ρ} (h : g_X10_log σ av q = some r) (hv : ∀ a ∈ av, zval X a) : zcon X 106 σ av q r := by
  unfold g_X10_log at h
  split at h
  · exact zcon_I (n := 106) (ml := 2) (rc := 0) (st := 0) (kd := 10) (np := 1) (by decide +kernel) (by decide) ⟨_, _, rfl, rfl⟩ (Nat.le_of_ble_eq_true rfl) hv h (fun y h1 => (zin_ok (hy_X10_log hX) bk_X10_log (fun t f hf => by
      cases hf) ((e_X10_log _ _).symm.trans h1)))
  · cases h
/-! SleepWaves.both(II)I -/
def q_X10_both_22 : List zEnt := zE 22 .ireturn 1 :: []
def q_X10_both_21 : List zEnt := zEk 21 (.iconst (-1)) 1 (-1) :: q_X10_both_22
def q_X10_both_18 : List zEnt := zEa 18 (.if_icmp .ne 5) 3 23 :: q_X10_both_21
def q_X10_both_16 : List zEnt := zE 16 (.iload_n 1) 1 :: zE 17 (.iload_n 2) 1 :: q_X10_both_18
def q_X10_both_13 : List zEnt := zEa 13 (.ifCond .eq 8) 3 21 :: q_X10_both_16
def q_X10_both_10 : List zEnt := zEc 10 (.invokevirtual 138) 3 123 2 72 0 :: q_X10_both_13
def q_X10_both_8 : List zEnt := zE 8 (.aload_n 0) 1 :: zE 9 (.iload_n 2) 1 :: q_X10_both_10
def q_X10_both_5 : List zEnt := zEa 5 (.ifCond .eq 16) 3 21 :: q_X10_both_8
def q_X10_both_2 : List zEnt := zEc 2 (.invokevirtual 138) 3 123 2 72 0 :: q_X10_both_5
def q_X10_both_0 : List zEnt := zE 0 (.aload_n 0) 1 :: zE 1 (.iload_n 1) 1 :: q_X10_both_2
def q_X10_both_37 : List zEnt := zE 37 .ireturn 1 :: []
def q_X10_both_34 : List zEnt := zEc 34 (.invokevirtual 230) 3 56 2 82 0 :: q_X10_both_37
def q_X10_both_23 : List zEnt := zE 23 (.aload_n 0) 1 :: zEf 24 (.getfield 61) 3 10 7 143 (2, 6, 0) :: zEk 27 (.iconst 1) 1 1 :: zE 28 (.iload_n 1) 1 :: zE 29 .ishl 1 :: zEk 30 (.iconst 1) 1 1 :: zE 31 (.iload_n 2) 1 :: zE 32 .ishl 1 :: zE 33 .ior 1 :: q_X10_both_34
def b_X10_both : List (Nat × List zEnt) := [(0, q_X10_both_0), (21, q_X10_both_21), (23, q_X10_both_23)]
theorem bk_X10_both : zchB 107 b_X10_both = true := by decide +kernel
noncomputable def cc_X10_both {ρ : Type} : Nat → zH → List zAV → (zH → zAV → Option ρ) → Option ρ := fun n σ av q => if n = 123 then g_X10_isCompany σ av q else if n = 56 then g_X6_quartersWith σ av q else none
theorem cs_X10_both {ρ : Type} {X : zX} (hX : zHX X) : zCS X (cc_X10_both (ρ := ρ)) := by
  intro n σ av q r h hv
  unfold cc_X10_both at h
  by_cases e_X10_isCompany : n = 123
  · rw [if_pos e_X10_isCompany] at h
    subst e_X10_isCompany
    exact c_X10_isCompany hX h hv
  rw [if_neg e_X10_isCompany] at h
  by_cases e_X6_quartersWith : n = 56
  · rw [if_pos e_X6_quartersWith] at h
    subst e_X6_quartersWith
    exact c_X6_quartersWith hX h hv
  rw [if_neg e_X6_quartersWith] at h
  cases h
theorem cl_X10_both_X10_isCompany {ρ : Type} (σ : zH) (av : List zAV) (q : zH → zAV → Option ρ) : cc_X10_both 123 σ av q = g_X10_isCompany σ av q := rfl
theorem cl_X10_both_X6_quartersWith {ρ : Type} (σ : zH) (av : List zAV) (q : zH → zAV → Option ρ) : cc_X10_both 56 σ av q = g_X6_quartersWith σ av q := rfl
theorem hy_X10_both {ρ : Type} {X : zX} (hX : zHX X) : zHY X 107 (cc_X10_both (ρ := ρ)) := zHX.hY hX (cs_X10_both hX) (zmok_all 107 (by decide))
theorem t_X10_both_0 {G : Nat → zH → List zAV → List zAV → Option (zH × Int32)} (es : List zEnt) (σ : zH) (x1 : Int32) (x2 : Int32)   : zev cc_X10_both G 0 krI (zE 0 (.aload_n 0) 1 :: zE 1 (.iload_n 1) 1 :: es) σ [vR 10 0, vI x1, vI x2] [] = zev cc_X10_both G 0 krI es σ [vR 10 0, vI x1, vI x2] [vI x1, vR 10 0] := rfl
theorem t_X10_both_8 {G : Nat → zH → List zAV → List zAV → Option (zH × Int32)} (es : List zEnt) (σ : zH) (x1 : Int32) (x2 : Int32)   : zev cc_X10_both G 0 krI (zE 8 (.aload_n 0) 1 :: zE 9 (.iload_n 2) 1 :: es) σ [vR 10 0, vI x1, vI x2] [] = zev cc_X10_both G 0 krI es σ [vR 10 0, vI x1, vI x2] [vI x2, vR 10 0] := rfl
theorem t_X10_both_16 {G : Nat → zH → List zAV → List zAV → Option (zH × Int32)} (es : List zEnt) (σ : zH) (x1 : Int32) (x2 : Int32)   : zev cc_X10_both G 0 krI (zE 16 (.iload_n 1) 1 :: zE 17 (.iload_n 2) 1 :: es) σ [vR 10 0, vI x1, vI x2] [] = zev cc_X10_both G 0 krI es σ [vR 10 0, vI x1, vI x2] [vI x2, vI x1] := rfl
theorem t_X10_both_21 {G : Nat → zH → List zAV → List zAV → Option (zH × Int32)} (es : List zEnt) (σ : zH)  (y0 : zAV) (y1 : zAV) (y2 : zAV) (w21 : Int32) : zev cc_X10_both G 0 krI (zEk 21 (.iconst (-1)) 1 w21 :: es) σ [y0, y1, y2] [] = zev cc_X10_both G 0 krI es σ [y0, y1, y2] [vI w21] := rfl
theorem t_X10_both_23 {G : Nat → zH → List zAV → List zAV → Option (zH × Int32)} (es : List zEnt) (σ : zH) (x1 : Int32) (x2 : Int32)  (w27 : Int32) (w30 : Int32) : zev cc_X10_both G 0 krI (zE 23 (.aload_n 0) 1 :: zEf 24 (.getfield 61) 3 10 7 143 (2, 6, 0) :: zEk 27 (.iconst 1) 1 w27 :: zE 28 (.iload_n 1) 1 :: zE 29 .ishl 1 :: zEk 30 (.iconst 1) 1 w30 :: zE 31 (.iload_n 2) 1 :: zE 32 .ishl 1 :: zE 33 .ior 1 :: es) σ [vR 10 0, vI x1, vI x2] [] = zev cc_X10_both G 0 krI es σ [vR 10 0, vI x1, vI x2] [vI ((w27 <<< (x1 &&& 31)) ||| (w30 <<< (x2 &&& 31))), vR 6 0] := rfl
noncomputable def d_X10_both (σ : zH) (xa1 : Int32) (xa2 : Int32) : Option (zH × Int32) :=
  (d_X10_isCompany σ xa1).bind fun p1 =>
  if p1.2 = 0 then
    some (p1.1, (-1 : Int32))
  else
    (d_X10_isCompany p1.1 xa2).bind fun p2 =>
    if p2.2 = 0 then
      some (p2.1, (-1 : Int32))
    else
      if xa1 = xa2 then
        some (p2.1, (-1 : Int32))
      else
        (d_X6_quartersWith p2.1 0 (((1 : Int32) <<< (xa1 &&& 31)) ||| ((1 : Int32) <<< (xa2 &&& 31)))).bind fun p3 =>
        some (p3.1, p3.2)
theorem e_X10_both (σ : zH) (xa1 : Int32) (xa2 : Int32) : d_X10_both σ xa1 xa2 = zin cc_X10_both (fun t => none) 0 krI b_X10_both 0 σ [vR 10 0, vI xa1, vI xa2] [] := by
  unfold d_X10_both
  refine Eq.symm ((zin_b (es := q_X10_both_0) rfl).trans ?_)
  refine (t_X10_both_0 _ _ _ _).trans ?_
  refine (x_callV rfl rfl rfl rfl).trans ((cl_X10_both_X10_isCompany _ _ _).trans ((gr_X10_isCompany _ _ _).trans (pbd fun _ => ?_)))
  refine x_if.trans (pif_eq ?_ ?_)
  · refine (zrun_b (es := q_X10_both_21) rfl rfl).trans ?_
    refine (t_X10_both_21 _ _ _ _ _ _).trans ?_
    exact x_iret
  · refine (t_X10_both_8 _ _ _ _).trans ?_
    refine (x_callV rfl rfl rfl rfl).trans ((cl_X10_both_X10_isCompany _ _ _).trans ((gr_X10_isCompany _ _ _).trans (pbd fun _ => ?_)))
    refine x_if.trans (pif_eq ?_ ?_)
    · refine (zrun_b (es := q_X10_both_21) rfl rfl).trans ?_
      refine (t_X10_both_21 _ _ _ _ _ _).trans ?_
      exact x_iret
    · refine (t_X10_both_16 _ _ _ _).trans ?_
      refine x_icmp.trans (pif_ne ?_ ?_)
      · refine (zrun_b (es := q_X10_both_23) rfl rfl).trans ?_
        refine (t_X10_both_23 _ _ _ _ _ _).trans ?_
        refine (x_callV rfl rfl rfl rfl).trans ((cl_X10_both_X6_quartersWith _ _ _).trans ((gr_X6_quartersWith _ _ _ _).trans (pbd fun _ => ?_)))
        exact x_iret
      · refine (t_X10_both_21 _ _ _ _ _ _).trans ?_
        exact x_iret
noncomputable def g_X10_both {ρ : Type} (σ : zH) (av : List zAV) (q : zH → zAV → Option ρ) : Option ρ := match av with
  | [.inr (.inr (.inl (10, 0))), .inl xa1, .inl xa2] => (d_X10_both σ xa1 xa2).bind fun p => q p.1 (vI p.2)
  | _ => none
theorem gr_X10_both {ρ : Type} (σ : zH) (xa1 : Int32) (xa2 : Int32) (q : zH → zAV → Option ρ) : g_X10_both σ [vR 10 0, vI xa1, vI xa2] q = (d_X10_both σ xa1 xa2).bind fun p => q p.1 (vI p.2) := rfl
theorem c_X10_both {ρ : Type} {X : zX} (hX : zHX X) {σ : zH} {av : List zAV} {q : zH → zAV → Option ρ} {r : ρ} (h : g_X10_both σ av q = some r) (hv : ∀ a ∈ av, zval X a) : zcon X 107 σ av q r := by
  unfold g_X10_both at h
  split at h
  · exact zcon_I (n := 107) (ml := 3) (rc := 0) (st := 0) (kd := 10) (np := 2) (by decide +kernel) (by decide) ⟨_, _, rfl, rfl⟩ (Nat.le_of_ble_eq_true rfl) hv h (fun y h1 => (zin_ok (hy_X10_both hX) bk_X10_both (fun t f hf => by
      cases hf) ((e_X10_both _ _ _).symm.trans h1)))
  · cases h
/-! SleepWaves.run(I)I -/
def q_X10_run_18 : List zEnt := zEa 18 (.goto 4) 3 22 :: []
def q_X10_run_15 : List zEnt := zEc 15 (.invokevirtual 233) 3 57 2 84 0 :: q_X10_run_18
def q_X10_run_8 : List zEnt := zE 8 (.aload_n 0) 1 :: zEf 9 (.getfield 61) 3 10 7 143 (2, 6, 0) :: zEk 12 (.iconst 1) 1 1 :: zE 13 (.iload_n 1) 1 :: zE 14 .ishl 1 :: q_X10_run_15
def q_X10_run_5 : List zEnt := zEa 5 (.ifCond .eq 16) 3 21 :: q_X10_run_8
def q_X10_run_2 : List zEnt := zEc 2 (.invokevirtual 138) 3 123 2 72 0 :: q_X10_run_5
def q_X10_run_0 : List zEnt := zE 0 (.aload_n 0) 1 :: zE 1 (.iload_n 1) 1 :: q_X10_run_2
def q_X10_run_22 : List zEnt := zE 22 .ireturn 1 :: []
def q_X10_run_21 : List zEnt := zEk 21 (.iconst (-1)) 1 (-1) :: q_X10_run_22
def b_X10_run : List (Nat × List zEnt) := [(0, q_X10_run_0), (21, q_X10_run_21), (22, q_X10_run_22)]
theorem bk_X10_run : zchB 108 b_X10_run = true := by decide +kernel
noncomputable def cc_X10_run {ρ : Type} : Nat → zH → List zAV → (zH → zAV → Option ρ) → Option ρ := fun n σ av q => if n = 123 then g_X10_isCompany σ av q else if n = 57 then g_X6_longestRun σ av q else none
theorem cs_X10_run {ρ : Type} {X : zX} (hX : zHX X) : zCS X (cc_X10_run (ρ := ρ)) := by
  intro n σ av q r h hv
  unfold cc_X10_run at h
  by_cases e_X10_isCompany : n = 123
  · rw [if_pos e_X10_isCompany] at h
    subst e_X10_isCompany
    exact c_X10_isCompany hX h hv
  rw [if_neg e_X10_isCompany] at h
  by_cases e_X6_longestRun : n = 57
  · rw [if_pos e_X6_longestRun] at h
    subst e_X6_longestRun
    exact c_X6_longestRun hX h hv
  rw [if_neg e_X6_longestRun] at h
  cases h
theorem cl_X10_run_X10_isCompany {ρ : Type} (σ : zH) (av : List zAV) (q : zH → zAV → Option ρ) : cc_X10_run 123 σ av q = g_X10_isCompany σ av q := rfl
theorem cl_X10_run_X6_longestRun {ρ : Type} (σ : zH) (av : List zAV) (q : zH → zAV → Option ρ) : cc_X10_run 57 σ av q = g_X6_longestRun σ av q := rfl
theorem hy_X10_run {ρ : Type} {X : zX} (hX : zHX X) : zHY X 108 (cc_X10_run (ρ := ρ)) := zHX.hY hX (cs_X10_run hX) (zmok_all 108 (by decide))
theorem t_X10_run_0 {G : Nat → zH → List zAV → List zAV → Option (zH × Int32)} (es : List zEnt) (σ : zH) (x1 : Int32)   : zev cc_X10_run G 0 krI (zE 0 (.aload_n 0) 1 :: zE 1 (.iload_n 1) 1 :: es) σ [vR 10 0, vI x1] [] = zev cc_X10_run G 0 krI es σ [vR 10 0, vI x1] [vI x1, vR 10 0] := rfl
theorem t_X10_run_8 {G : Nat → zH → List zAV → List zAV → Option (zH × Int32)} (es : List zEnt) (σ : zH) (x1 : Int32)  (w12 : Int32) : zev cc_X10_run G 0 krI (zE 8 (.aload_n 0) 1 :: zEf 9 (.getfield 61) 3 10 7 143 (2, 6, 0) :: zEk 12 (.iconst 1) 1 w12 :: zE 13 (.iload_n 1) 1 :: zE 14 .ishl 1 :: es) σ [vR 10 0, vI x1] [] = zev cc_X10_run G 0 krI es σ [vR 10 0, vI x1] [vI (w12 <<< (x1 &&& 31)), vR 6 0] := rfl
theorem t_X10_run_21 {G : Nat → zH → List zAV → List zAV → Option (zH × Int32)} (es : List zEnt) (σ : zH)  (y0 : zAV) (y1 : zAV) (w21 : Int32) : zev cc_X10_run G 0 krI (zEk 21 (.iconst (-1)) 1 w21 :: es) σ [y0, y1] [] = zev cc_X10_run G 0 krI es σ [y0, y1] [vI w21] := rfl
noncomputable def d_X10_run (σ : zH) (xa1 : Int32) : Option (zH × Int32) :=
  (d_X10_isCompany σ xa1).bind fun p1 =>
  if p1.2 = 0 then
    some (p1.1, (-1 : Int32))
  else
    (d_X6_longestRun p1.1 0 ((1 : Int32) <<< (xa1 &&& 31))).bind fun p2 =>
    some (p2.1, p2.2)
theorem e_X10_run (σ : zH) (xa1 : Int32) : d_X10_run σ xa1 = zin cc_X10_run (fun t => none) 0 krI b_X10_run 0 σ [vR 10 0, vI xa1] [] := by
  unfold d_X10_run
  refine Eq.symm ((zin_b (es := q_X10_run_0) rfl).trans ?_)
  refine (t_X10_run_0 _ _ _).trans ?_
  refine (x_callV rfl rfl rfl rfl).trans ((cl_X10_run_X10_isCompany _ _ _).trans ((gr_X10_isCompany _ _ _).trans (pbd fun _ => ?_)))
  refine x_if.trans (pif_eq ?_ ?_)
  · refine (zrun_b (es := q_X10_run_21) rfl rfl).trans ?_
    refine (t_X10_run_21 _ _ _ _ _).trans ?_
    exact x_iret
  · refine (t_X10_run_8 _ _ _ _).trans ?_
    refine (x_callV rfl rfl rfl rfl).trans ((cl_X10_run_X6_longestRun _ _ _).trans ((gr_X6_longestRun _ _ _ _).trans (pbd fun _ => ?_)))
    refine x_goto.trans ?_
    refine (zrun_b (es := q_X10_run_22) rfl rfl).trans ?_
    exact x_iret
noncomputable def g_X10_run {ρ : Type} (σ : zH) (av : List zAV) (q : zH → zAV → Option ρ) : Option ρ := match av with
  | [.inr (.inr (.inl (10, 0))), .inl xa1] => (d_X10_run σ xa1).bind fun p => q p.1 (vI p.2)
  | _ => none
theorem gr_X10_run {ρ : Type} (σ : zH) (xa1 : Int32) (q : zH → zAV → Option ρ) : g_X10_run σ [vR 10 0, vI xa1] q = (d_X10_run σ xa1).bind fun p => q p.1 (vI p.2) := rfl
theorem c_X10_run {ρ : Type} {X : zX} (hX : zHX X) {σ : zH} {av : List zAV} {q : zH → zAV → Option ρ} {r : ρ} (h : g_X10_run σ av q = some r) (hv : ∀ a ∈ av, zval X a) : zcon X 108 σ av q r := by
  unfold g_X10_run at h
  split at h
  · exact zcon_I (n := 108) (ml := 2) (rc := 0) (st := 0) (kd := 10) (np := 1) (by decide +kernel) (by decide) ⟨_, _, rfl, rfl⟩ (Nat.le_of_ble_eq_true rfl) hv h (fun y h1 => (zin_ok (hy_X10_run hX) bk_X10_run (fun t f hf => by
      cases hf) ((e_X10_run _ _).symm.trans h1)))
  · cases h
/-! SleepWaves.areCompanies(I)Z -/
def q_X10_areCompanies_20 : List zEnt := zEa 20 (.goto 4) 3 24 :: []
def q_X10_areCompanies_19 : List zEnt := zEk 19 (.iconst 1) 1 1 :: q_X10_areCompanies_20
def q_X10_areCompanies_16 : List zEnt := zEa 16 (.ifCond .ne 7) 3 23 :: q_X10_areCompanies_19
def q_X10_areCompanies_4 : List zEnt := zE 4 (.iload_n 1) 1 :: zE 5 (.aload_n 0) 1 :: zEf 6 (.getfield 54) 3 10 6 142 (2, 8, 0) :: zEf 9 (.getfield 176) 3 8 0 87 (1, 0, 1) :: zEf 12 (.getfield 112) 3 0 0 33 (0, 0, 0) :: zE 15 .ishr 1 :: q_X10_areCompanies_16
def q_X10_areCompanies_1 : List zEnt := zEa 1 (.ifCond .lt 22) 3 23 :: q_X10_areCompanies_4
def q_X10_areCompanies_0 : List zEnt := zE 0 (.iload_n 1) 1 :: q_X10_areCompanies_1
def q_X10_areCompanies_24 : List zEnt := zE 24 .ireturn 1 :: []
def q_X10_areCompanies_23 : List zEnt := zEk 23 (.iconst 0) 1 0 :: q_X10_areCompanies_24
def b_X10_areCompanies : List (Nat × List zEnt) := [(0, q_X10_areCompanies_0), (23, q_X10_areCompanies_23), (24, q_X10_areCompanies_24)]
theorem bk_X10_areCompanies : zchB 124 b_X10_areCompanies = true := by decide +kernel
theorem hy_X10_areCompanies {ρ : Type} {X : zX} (hX : zHX X) : zHY X 124 (zc0 (ρ := ρ)) := zHX.hY hX (zc0_ok X) (zmok_all 124 (by decide))
theorem t_X10_areCompanies_0 {G : Nat → zH → List zAV → List zAV → Option (zH × Int32)} (es : List zEnt) (σ : zH) (x1 : Int32)   : zev zc0 G 1 krI (zE 0 (.iload_n 1) 1 :: es) σ [vR 10 0, vI x1] [] = zev zc0 G 1 krI es σ [vR 10 0, vI x1] [vI x1] := rfl
theorem t_X10_areCompanies_4 {G : Nat → zH → List zAV → List zAV → Option (zH × Int32)} (es : List zEnt) (σ : zH) (x1 : Int32)   : zev zc0 G 1 krI (zE 4 (.iload_n 1) 1 :: zE 5 (.aload_n 0) 1 :: zEf 6 (.getfield 54) 3 10 6 142 (2, 8, 0) :: zEf 9 (.getfield 176) 3 8 0 87 (1, 0, 1) :: zEf 12 (.getfield 112) 3 0 0 33 (0, 0, 0) :: zE 15 .ishr 1 :: es) σ [vR 10 0, vI x1] [] = zev zc0 G 1 krI es σ [vR 10 0, vI x1] [vI (x1 >>> ((σ.1 0 (0 + 1) 0) &&& 31))] := rfl
theorem t_X10_areCompanies_19 {G : Nat → zH → List zAV → List zAV → Option (zH × Int32)} (es : List zEnt) (σ : zH)  (y0 : zAV) (y1 : zAV) (w19 : Int32) : zev zc0 G 1 krI (zEk 19 (.iconst 1) 1 w19 :: es) σ [y0, y1] [] = zev zc0 G 1 krI es σ [y0, y1] [vI w19] := rfl
theorem t_X10_areCompanies_23 {G : Nat → zH → List zAV → List zAV → Option (zH × Int32)} (es : List zEnt) (σ : zH)  (y0 : zAV) (y1 : zAV) (w23 : Int32) : zev zc0 G 1 krI (zEk 23 (.iconst 0) 1 w23 :: es) σ [y0, y1] [] = zev zc0 G 1 krI es σ [y0, y1] [vI w23] := rfl
noncomputable def d_X10_areCompanies (σ : zH) (xa1 : Int32) : Option (zH × Int32) :=
  if xa1 < 0 then
    some (σ, (0 : Int32))
  else
    if (xa1 >>> ((σ.1 0 (0 + 1) 0) &&& 31)) = 0 then
      some (σ, (1 : Int32))
    else
      some (σ, (0 : Int32))
theorem e_X10_areCompanies (σ : zH) (xa1 : Int32) : d_X10_areCompanies σ xa1 = zin zc0 (fun t => none) 1 krI b_X10_areCompanies 0 σ [vR 10 0, vI xa1] [] := by
  unfold d_X10_areCompanies
  refine Eq.symm ((zin_b (es := q_X10_areCompanies_0) rfl).trans ?_)
  refine (t_X10_areCompanies_0 _ _ _).trans ?_
  refine x_if.trans (pif_lt ?_ ?_)
  · refine (zrun_b (es := q_X10_areCompanies_23) rfl rfl).trans ?_
    refine (t_X10_areCompanies_23 _ _ _ _ _).trans ?_
    exact x_zret.trans (tv_l (by decide +kernel))
  · refine (t_X10_areCompanies_4 _ _ _).trans ?_
    refine x_if.trans (pif_ne ?_ ?_)
    · refine (zrun_b (es := q_X10_areCompanies_23) rfl rfl).trans ?_
      refine (t_X10_areCompanies_23 _ _ _ _ _).trans ?_
      exact x_zret.trans (tv_l (by decide +kernel))
    · refine (t_X10_areCompanies_19 _ _ _ _ _).trans ?_
      refine x_goto.trans ?_
      refine (zrun_b (es := q_X10_areCompanies_24) rfl rfl).trans ?_
      exact x_zret.trans (tv_l (by decide +kernel))
noncomputable def g_X10_areCompanies {ρ : Type} (σ : zH) (av : List zAV) (q : zH → zAV → Option ρ) : Option ρ := match av with
  | [.inr (.inr (.inl (10, 0))), .inl xa1] => (d_X10_areCompanies σ xa1).bind fun p => q p.1 (vI p.2)
  | _ => none
theorem gr_X10_areCompanies {ρ : Type} (σ : zH) (xa1 : Int32) (q : zH → zAV → Option ρ) : g_X10_areCompanies σ [vR 10 0, vI xa1] q = (d_X10_areCompanies σ xa1).bind fun p => q p.1 (vI p.2) := rfl
theorem c_X10_areCompanies {ρ : Type} {X : zX} (hX : zHX X) {σ : zH} {av : List zAV} {q : zH → zAV → Option ρ} {r : ρ} (h : g_X10_areCompanies σ av q = some r) (hv : ∀ a ∈ av, zval X a) : zcon X 124 σ av q r := by
  unfold g_X10_areCompanies at h
  split at h
  · exact zcon_I (n := 124) (ml := 2) (rc := 1) (st := 0) (kd := 10) (np := 1) (by decide +kernel) (by decide) ⟨_, _, rfl, rfl⟩ (Nat.le_of_ble_eq_true rfl) hv h (fun y h1 => (zin_ok (hy_X10_areCompanies hX) bk_X10_areCompanies (fun t f hf => by
      cases hf) ((e_X10_areCompanies _ _).symm.trans h1)))
  · cases h
/-! SleepWaves.just(II)I -/
def q_X10_just_18 : List zEnt := zE 18 .ireturn 1 :: []
def q_X10_just_17 : List zEnt := zEk 17 (.iconst (-1)) 1 (-1) :: q_X10_just_18
def q_X10_just_14 : List zEnt := zEa 14 (.if_icmp .le 5) 3 19 :: q_X10_just_17
def q_X10_just_12 : List zEnt := zE 12 (.iload_n 2) 1 :: zEk 13 (.iconst 1) 1 1 :: q_X10_just_14
def q_X10_just_9 : List zEnt := zEa 9 (.ifCond .lt 8) 3 17 :: q_X10_just_12
def q_X10_just_8 : List zEnt := zE 8 (.iload_n 2) 1 :: q_X10_just_9
def q_X10_just_5 : List zEnt := zEa 5 (.ifCond .eq 12) 3 17 :: q_X10_just_8
def q_X10_just_2 : List zEnt := zEc 2 (.invokevirtual 236) 3 124 2 85 0 :: q_X10_just_5
def q_X10_just_0 : List zEnt := zE 0 (.aload_n 0) 1 :: zE 1 (.iload_n 1) 1 :: q_X10_just_2
def q_X10_just_31 : List zEnt := zEa 31 (.goto 11) 3 42 :: []
def q_X10_just_28 : List zEnt := zEc 28 (.invokevirtual 239) 3 58 2 86 0 :: q_X10_just_31
def q_X10_just_23 : List zEnt := zE 23 (.aload_n 0) 1 :: zEf 24 (.getfield 61) 3 10 7 143 (2, 6, 0) :: zE 27 (.iload_n 1) 1 :: q_X10_just_28
def q_X10_just_20 : List zEnt := zEa 20 (.ifCond .ne 14) 3 34 :: q_X10_just_23
def q_X10_just_19 : List zEnt := zE 19 (.iload_n 2) 1 :: q_X10_just_20
def q_X10_just_42 : List zEnt := zE 42 .ireturn 1 :: []
def q_X10_just_39 : List zEnt := zEc 39 (.invokevirtual 242) 3 59 2 87 0 :: q_X10_just_42
def q_X10_just_34 : List zEnt := zE 34 (.aload_n 0) 1 :: zEf 35 (.getfield 61) 3 10 7 143 (2, 6, 0) :: zE 38 (.iload_n 1) 1 :: q_X10_just_39
def b_X10_just : List (Nat × List zEnt) := [(0, q_X10_just_0), (17, q_X10_just_17), (19, q_X10_just_19), (34, q_X10_just_34), (42, q_X10_just_42)]
theorem bk_X10_just : zchB 109 b_X10_just = true := by decide +kernel
noncomputable def cc_X10_just {ρ : Type} : Nat → zH → List zAV → (zH → zAV → Option ρ) → Option ρ := fun n σ av q => if n = 124 then g_X10_areCompanies σ av q else if n = 58 then g_X6_quartersOf σ av q else if n = 59 then g_X6_lastOf σ av q else none
theorem cs_X10_just {ρ : Type} {X : zX} (hX : zHX X) : zCS X (cc_X10_just (ρ := ρ)) := by
  intro n σ av q r h hv
  unfold cc_X10_just at h
  by_cases e_X10_areCompanies : n = 124
  · rw [if_pos e_X10_areCompanies] at h
    subst e_X10_areCompanies
    exact c_X10_areCompanies hX h hv
  rw [if_neg e_X10_areCompanies] at h
  by_cases e_X6_quartersOf : n = 58
  · rw [if_pos e_X6_quartersOf] at h
    subst e_X6_quartersOf
    exact c_X6_quartersOf hX h hv
  rw [if_neg e_X6_quartersOf] at h
  by_cases e_X6_lastOf : n = 59
  · rw [if_pos e_X6_lastOf] at h
    subst e_X6_lastOf
    exact c_X6_lastOf hX h hv
  rw [if_neg e_X6_lastOf] at h
  cases h
theorem cl_X10_just_X10_areCompanies {ρ : Type} (σ : zH) (av : List zAV) (q : zH → zAV → Option ρ) : cc_X10_just 124 σ av q = g_X10_areCompanies σ av q := rfl
theorem cl_X10_just_X6_quartersOf {ρ : Type} (σ : zH) (av : List zAV) (q : zH → zAV → Option ρ) : cc_X10_just 58 σ av q = g_X6_quartersOf σ av q := rfl
theorem cl_X10_just_X6_lastOf {ρ : Type} (σ : zH) (av : List zAV) (q : zH → zAV → Option ρ) : cc_X10_just 59 σ av q = g_X6_lastOf σ av q := rfl
theorem hy_X10_just {ρ : Type} {X : zX} (hX : zHX X) : zHY X 109 (cc_X10_just (ρ := ρ)) := zHX.hY hX (cs_X10_just hX) (zmok_all 109 (by decide))
theorem t_X10_just_0 {G : Nat → zH → List zAV → List zAV → Option (zH × Int32)} (es : List zEnt) (σ : zH) (x1 : Int32) (x2 : Int32)   : zev cc_X10_just G 0 krI (zE 0 (.aload_n 0) 1 :: zE 1 (.iload_n 1) 1 :: es) σ [vR 10 0, vI x1, vI x2] [] = zev cc_X10_just G 0 krI es σ [vR 10 0, vI x1, vI x2] [vI x1, vR 10 0] := rfl
theorem t_X10_just_8 {G : Nat → zH → List zAV → List zAV → Option (zH × Int32)} (es : List zEnt) (σ : zH) (x1 : Int32) (x2 : Int32)   : zev cc_X10_just G 0 krI (zE 8 (.iload_n 2) 1 :: es) σ [vR 10 0, vI x1, vI x2] [] = zev cc_X10_just G 0 krI es σ [vR 10 0, vI x1, vI x2] [vI x2] := rfl
theorem t_X10_just_12 {G : Nat → zH → List zAV → List zAV → Option (zH × Int32)} (es : List zEnt) (σ : zH) (x1 : Int32) (x2 : Int32)  (w13 : Int32) : zev cc_X10_just G 0 krI (zE 12 (.iload_n 2) 1 :: zEk 13 (.iconst 1) 1 w13 :: es) σ [vR 10 0, vI x1, vI x2] [] = zev cc_X10_just G 0 krI es σ [vR 10 0, vI x1, vI x2] [vI w13, vI x2] := rfl
theorem t_X10_just_17 {G : Nat → zH → List zAV → List zAV → Option (zH × Int32)} (es : List zEnt) (σ : zH)  (y0 : zAV) (y1 : zAV) (y2 : zAV) (w17 : Int32) : zev cc_X10_just G 0 krI (zEk 17 (.iconst (-1)) 1 w17 :: es) σ [y0, y1, y2] [] = zev cc_X10_just G 0 krI es σ [y0, y1, y2] [vI w17] := rfl
theorem t_X10_just_19 {G : Nat → zH → List zAV → List zAV → Option (zH × Int32)} (es : List zEnt) (σ : zH) (x1 : Int32) (x2 : Int32)   : zev cc_X10_just G 0 krI (zE 19 (.iload_n 2) 1 :: es) σ [vR 10 0, vI x1, vI x2] [] = zev cc_X10_just G 0 krI es σ [vR 10 0, vI x1, vI x2] [vI x2] := rfl
theorem t_X10_just_23 {G : Nat → zH → List zAV → List zAV → Option (zH × Int32)} (es : List zEnt) (σ : zH) (x1 : Int32) (y2 : zAV)  : zev cc_X10_just G 0 krI (zE 23 (.aload_n 0) 1 :: zEf 24 (.getfield 61) 3 10 7 143 (2, 6, 0) :: zE 27 (.iload_n 1) 1 :: es) σ [vR 10 0, vI x1, y2] [] = zev cc_X10_just G 0 krI es σ [vR 10 0, vI x1, y2] [vI x1, vR 6 0] := rfl
theorem t_X10_just_34 {G : Nat → zH → List zAV → List zAV → Option (zH × Int32)} (es : List zEnt) (σ : zH) (x1 : Int32) (y2 : zAV)  : zev cc_X10_just G 0 krI (zE 34 (.aload_n 0) 1 :: zEf 35 (.getfield 61) 3 10 7 143 (2, 6, 0) :: zE 38 (.iload_n 1) 1 :: es) σ [vR 10 0, vI x1, y2] [] = zev cc_X10_just G 0 krI es σ [vR 10 0, vI x1, y2] [vI x1, vR 6 0] := rfl
noncomputable def d_X10_just (σ : zH) (xa1 : Int32) (xa2 : Int32) : Option (zH × Int32) :=
  (d_X10_areCompanies σ xa1).bind fun p1 =>
  if p1.2 = 0 then
    some (p1.1, (-1 : Int32))
  else
    if xa2 < 0 then
      some (p1.1, (-1 : Int32))
    else
      if (1 : Int32) < xa2 then
        some (p1.1, (-1 : Int32))
      else
        if xa2 = 0 then
          (d_X6_quartersOf p1.1 0 xa1).bind fun p3 =>
          some (p3.1, p3.2)
        else
          (d_X6_lastOf p1.1 0 xa1).bind fun p2 =>
          some (p2.1, p2.2)
theorem e_X10_just (σ : zH) (xa1 : Int32) (xa2 : Int32) : d_X10_just σ xa1 xa2 = zin cc_X10_just (fun t => none) 0 krI b_X10_just 0 σ [vR 10 0, vI xa1, vI xa2] [] := by
  unfold d_X10_just
  refine Eq.symm ((zin_b (es := q_X10_just_0) rfl).trans ?_)
  refine (t_X10_just_0 _ _ _ _).trans ?_
  refine (x_callV rfl rfl rfl rfl).trans ((cl_X10_just_X10_areCompanies _ _ _).trans ((gr_X10_areCompanies _ _ _).trans (pbd fun _ => ?_)))
  refine x_if.trans (pif_eq ?_ ?_)
  · refine (zrun_b (es := q_X10_just_17) rfl rfl).trans ?_
    refine (t_X10_just_17 _ _ _ _ _ _).trans ?_
    exact x_iret
  · refine (t_X10_just_8 _ _ _ _).trans ?_
    refine x_if.trans (pif_lt ?_ ?_)
    · refine (zrun_b (es := q_X10_just_17) rfl rfl).trans ?_
      refine (t_X10_just_17 _ _ _ _ _ _).trans ?_
      exact x_iret
    · refine (t_X10_just_12 _ _ _ _ _).trans ?_
      refine x_icmp.trans (pif_le ?_ ?_)
      · refine (zrun_b (es := q_X10_just_19) rfl rfl).trans ?_
        refine (t_X10_just_19 _ _ _ _).trans ?_
        refine x_if.trans (pif_ne ?_ ?_)
        · refine (zrun_b (es := q_X10_just_34) rfl rfl).trans ?_
          refine (t_X10_just_34 _ _ _ _).trans ?_
          refine (x_callV rfl rfl rfl rfl).trans ((cl_X10_just_X6_lastOf _ _ _).trans ((gr_X6_lastOf _ _ _ _).trans (pbd fun _ => ?_)))
          exact x_iret
        · refine (t_X10_just_23 _ _ _ _).trans ?_
          refine (x_callV rfl rfl rfl rfl).trans ((cl_X10_just_X6_quartersOf _ _ _).trans ((gr_X6_quartersOf _ _ _ _).trans (pbd fun _ => ?_)))
          refine x_goto.trans ?_
          refine (zrun_b (es := q_X10_just_42) rfl rfl).trans ?_
          exact x_iret
      · refine (t_X10_just_17 _ _ _ _ _ _).trans ?_
        exact x_iret
noncomputable def g_X10_just {ρ : Type} (σ : zH) (av : List zAV) (q : zH → zAV → Option ρ) : Option ρ := match av with
  | [.inr (.inr (.inl (10, 0))), .inl xa1, .inl xa2] => (d_X10_just σ xa1 xa2).bind fun p => q p.1 (vI p.2)
  | _ => none
theorem gr_X10_just {ρ : Type} (σ : zH) (xa1 : Int32) (xa2 : Int32) (q : zH → zAV → Option ρ) : g_X10_just σ [vR 10 0, vI xa1, vI xa2] q = (d_X10_just σ xa1 xa2).bind fun p => q p.1 (vI p.2) := rfl
theorem c_X10_just {ρ : Type} {X : zX} (hX : zHX X) {σ : zH} {av : List zAV} {q : zH → zAV → Option ρ} {r : ρ} (h : g_X10_just σ av q = some r) (hv : ∀ a ∈ av, zval X a) : zcon X 109 σ av q r := by
  unfold g_X10_just at h
  split at h
  · exact zcon_I (n := 109) (ml := 3) (rc := 0) (st := 0) (kd := 10) (np := 2) (by decide +kernel) (by decide) ⟨_, _, rfl, rfl⟩ (Nat.le_of_ble_eq_true rfl) hv h (fun y h1 => (zin_ok (hy_X10_just hX) bk_X10_just (fun t f hf => by
      cases hf) ((e_X10_just _ _ _).symm.trans h1)))
  · cases h
/-! SleepWaves.ahead(III)I -/
def q_X10_ahead_29 : List zEnt := zE 29 .ireturn 1 :: []
def q_X10_ahead_28 : List zEnt := zEk 28 (.iconst (-1)) 1 (-1) :: q_X10_ahead_29
def q_X10_ahead_25 : List zEnt := zEa 25 (.if_icmp .le 5) 3 30 :: q_X10_ahead_28
def q_X10_ahead_23 : List zEnt := zE 23 (.iload_n 3) 1 :: zEk 24 (.iconst 4) 1 4 :: q_X10_ahead_25
def q_X10_ahead_20 : List zEnt := zEa 20 (.ifCond .lt 8) 3 28 :: q_X10_ahead_23
def q_X10_ahead_19 : List zEnt := zE 19 (.iload_n 3) 1 :: q_X10_ahead_20
def q_X10_ahead_16 : List zEnt := zEa 16 (.if_icmp .gt 12) 3 28 :: q_X10_ahead_19
def q_X10_ahead_12 : List zEnt := zE 12 (.iload_n 2) 1 :: zEk 13 (.sipush 192) 3 192 :: q_X10_ahead_16
def q_X10_ahead_9 : List zEnt := zEa 9 (.ifCond .lt 19) 3 28 :: q_X10_ahead_12
def q_X10_ahead_8 : List zEnt := zE 8 (.iload_n 2) 1 :: q_X10_ahead_9
def q_X10_ahead_5 : List zEnt := zEa 5 (.ifCond .eq 23) 3 28 :: q_X10_ahead_8
def q_X10_ahead_2 : List zEnt := zEc 2 (.invokevirtual 122) 3 122 2 50 0 :: q_X10_ahead_5
def q_X10_ahead_0 : List zEnt := zE 0 (.aload_n 0) 1 :: zE 1 (.iload_n 1) 1 :: q_X10_ahead_2
def q_X10_ahead_52 : List zEnt := zE 52 .ireturn 1 :: []
def q_X10_ahead_49 : List zEnt := zEc 49 (.invokevirtual 248) 3 19 2 93 0 :: q_X10_ahead_52
def q_X10_ahead_44 : List zEnt := zE 44 (.aload_n 0) 1 :: zEf 45 (.getfield 82) 3 10 11 147 (2, 2, 0) :: zE 48 (.iload_n 3) 1 :: q_X10_ahead_49
def q_X10_ahead_41 : List zEnt := zEc 41 (.invokevirtual 245) 3 17 3 88 1 :: q_X10_ahead_44
def q_X10_ahead_40 : List zEnt := zE 40 (.iload_n 2) 1 :: q_X10_ahead_41
def q_X10_ahead_39 : List zEnt := zE 39 .aaload 1 :: q_X10_ahead_40
def q_X10_ahead_30 : List zEnt := zE 30 (.aload_n 0) 1 :: zEf 31 (.getfield 82) 3 10 11 147 (2, 2, 0) :: zE 34 (.aload_n 0) 1 :: zEf 35 (.getfield 46) 3 10 4 140 (2, 38, 0) :: zE 38 (.iload_n 1) 1 :: q_X10_ahead_39
def b_X10_ahead : List (Nat × List zEnt) := [(0, q_X10_ahead_0), (28, q_X10_ahead_28), (30, q_X10_ahead_30)]
theorem bk_X10_ahead : zchB 110 b_X10_ahead = true := by decide +kernel
noncomputable def cc_X10_ahead {ρ : Type} : Nat → zH → List zAV → (zH → zAV → Option ρ) → Option ρ := fun n σ av q => if n = 122 then g_X10_isLaw σ av q else if n = 17 then g_X2_play σ av q else if n = 19 then g_X2_outcome σ av q else none
theorem cs_X10_ahead {ρ : Type} {X : zX} (hX : zHX X) : zCS X (cc_X10_ahead (ρ := ρ)) := by
  intro n σ av q r h hv
  unfold cc_X10_ahead at h
  by_cases e_X10_isLaw : n = 122
  · rw [if_pos e_X10_isLaw] at h
    subst e_X10_isLaw
    exact c_X10_isLaw hX h hv
  rw [if_neg e_X10_isLaw] at h
  by_cases e_X2_play : n = 17
  · rw [if_pos e_X2_play] at h
    subst e_X2_play
    exact c_X2_play hX h hv
  rw [if_neg e_X2_play] at h
  by_cases e_X2_outcome : n = 19
  · rw [if_pos e_X2_outcome] at h
    subst e_X2_outcome
    exact c_X2_outcome hX h hv
  rw [if_neg e_X2_outcome] at h
  cases h
theorem cl_X10_ahead_X10_isLaw {ρ : Type} (σ : zH) (av : List zAV) (q : zH → zAV → Option ρ) : cc_X10_ahead 122 σ av q = g_X10_isLaw σ av q := rfl
theorem cl_X10_ahead_X2_play {ρ : Type} (σ : zH) (av : List zAV) (q : zH → zAV → Option ρ) : cc_X10_ahead 17 σ av q = g_X2_play σ av q := rfl
theorem cl_X10_ahead_X2_outcome {ρ : Type} (σ : zH) (av : List zAV) (q : zH → zAV → Option ρ) : cc_X10_ahead 19 σ av q = g_X2_outcome σ av q := rfl
theorem hy_X10_ahead {ρ : Type} {X : zX} (hX : zHX X) : zHY X 110 (cc_X10_ahead (ρ := ρ)) := zHX.hY hX (cs_X10_ahead hX) (zmok_all 110 (by decide))
theorem t_X10_ahead_0 {G : Nat → zH → List zAV → List zAV → Option (zH × Int32)} (es : List zEnt) (σ : zH) (x1 : Int32) (x2 : Int32) (x3 : Int32)   : zev cc_X10_ahead G 0 krI (zE 0 (.aload_n 0) 1 :: zE 1 (.iload_n 1) 1 :: es) σ [vR 10 0, vI x1, vI x2, vI x3] [] = zev cc_X10_ahead G 0 krI es σ [vR 10 0, vI x1, vI x2, vI x3] [vI x1, vR 10 0] := rfl
theorem t_X10_ahead_8 {G : Nat → zH → List zAV → List zAV → Option (zH × Int32)} (es : List zEnt) (σ : zH) (x1 : Int32) (x2 : Int32) (x3 : Int32)   : zev cc_X10_ahead G 0 krI (zE 8 (.iload_n 2) 1 :: es) σ [vR 10 0, vI x1, vI x2, vI x3] [] = zev cc_X10_ahead G 0 krI es σ [vR 10 0, vI x1, vI x2, vI x3] [vI x2] := rfl
theorem t_X10_ahead_12 {G : Nat → zH → List zAV → List zAV → Option (zH × Int32)} (es : List zEnt) (σ : zH) (x1 : Int32) (x2 : Int32) (x3 : Int32)  (w13 : Int32) : zev cc_X10_ahead G 0 krI (zE 12 (.iload_n 2) 1 :: zEk 13 (.sipush 192) 3 w13 :: es) σ [vR 10 0, vI x1, vI x2, vI x3] [] = zev cc_X10_ahead G 0 krI es σ [vR 10 0, vI x1, vI x2, vI x3] [vI w13, vI x2] := rfl
theorem t_X10_ahead_19 {G : Nat → zH → List zAV → List zAV → Option (zH × Int32)} (es : List zEnt) (σ : zH) (x1 : Int32) (x2 : Int32) (x3 : Int32)   : zev cc_X10_ahead G 0 krI (zE 19 (.iload_n 3) 1 :: es) σ [vR 10 0, vI x1, vI x2, vI x3] [] = zev cc_X10_ahead G 0 krI es σ [vR 10 0, vI x1, vI x2, vI x3] [vI x3] := rfl
theorem t_X10_ahead_23 {G : Nat → zH → List zAV → List zAV → Option (zH × Int32)} (es : List zEnt) (σ : zH) (x1 : Int32) (x2 : Int32) (x3 : Int32)  (w24 : Int32) : zev cc_X10_ahead G 0 krI (zE 23 (.iload_n 3) 1 :: zEk 24 (.iconst 4) 1 w24 :: es) σ [vR 10 0, vI x1, vI x2, vI x3] [] = zev cc_X10_ahead G 0 krI es σ [vR 10 0, vI x1, vI x2, vI x3] [vI w24, vI x3] := rfl
theorem t_X10_ahead_28 {G : Nat → zH → List zAV → List zAV → Option (zH × Int32)} (es : List zEnt) (σ : zH)  (y0 : zAV) (y1 : zAV) (y2 : zAV) (y3 : zAV) (w28 : Int32) : zev cc_X10_ahead G 0 krI (zEk 28 (.iconst (-1)) 1 w28 :: es) σ [y0, y1, y2, y3] [] = zev cc_X10_ahead G 0 krI es σ [y0, y1, y2, y3] [vI w28] := rfl
theorem t_X10_ahead_30 {G : Nat → zH → List zAV → List zAV → Option (zH × Int32)} (es : List zEnt) (σ : zH) (x1 : Int32) (x2 : Int32) (x3 : Int32)   : zev cc_X10_ahead G 0 krI (zE 30 (.aload_n 0) 1 :: zEf 31 (.getfield 82) 3 10 11 147 (2, 2, 0) :: zE 34 (.aload_n 0) 1 :: zEf 35 (.getfield 46) 3 10 4 140 (2, 38, 0) :: zE 38 (.iload_n 1) 1 :: es) σ [vR 10 0, vI x1, vI x2, vI x3] [] = zev cc_X10_ahead G 0 krI es σ [vR 10 0, vI x1, vI x2, vI x3] [vI x1, vR 38 0, vR 2 0] := rfl
theorem t_X10_ahead_40 {G : Nat → zH → List zAV → List zAV → Option (zH × Int32)} (es : List zEnt) (σ : zH) (x2 : Int32) (x3 : Int32) (is1 : Nat) (y1 : zAV)  : zev cc_X10_ahead G 0 krI (zE 40 (.iload_n 2) 1 :: es) σ [vR 10 0, y1, vI x2, vI x3] [vR 4 is1, vR 2 0] = zev cc_X10_ahead G 0 krI es σ [vR 10 0, y1, vI x2, vI x3] [vI x2, vR 4 is1, vR 2 0] := rfl
theorem t_X10_ahead_44 {G : Nat → zH → List zAV → List zAV → Option (zH × Int32)} (es : List zEnt) (σ : zH) (x3 : Int32) (y1 : zAV) (y2 : zAV)  : zev cc_X10_ahead G 0 krI (zE 44 (.aload_n 0) 1 :: zEf 45 (.getfield 82) 3 10 11 147 (2, 2, 0) :: zE 48 (.iload_n 3) 1 :: es) σ [vR 10 0, y1, y2, vI x3] [] = zev cc_X10_ahead G 0 krI es σ [vR 10 0, y1, y2, vI x3] [vI x3, vR 2 0] := rfl
noncomputable def d_X10_ahead (σ : zH) (xa1 : Int32) (xa2 : Int32) (xa3 : Int32) : Option (zH × Int32) :=
  (d_X10_isLaw σ xa1).bind fun p1 =>
  if p1.2 = 0 then
    some (p1.1, (-1 : Int32))
  else
    if xa2 < 0 then
      some (p1.1, (-1 : Int32))
    else
      if (192 : Int32) < xa2 then
        some (p1.1, (-1 : Int32))
      else
        if xa3 < 0 then
          some (p1.1, (-1 : Int32))
        else
          if (4 : Int32) < xa3 then
            some (p1.1, (-1 : Int32))
          else
            ix xa1 6 fun j2 =>
            (d_X2_play p1.1 (0 + j2) xa2).bind fun σ3 =>
            (d_X2_outcome σ3 xa3).bind fun p4 =>
            some (p4.1, p4.2)
theorem e_X10_ahead (σ : zH) (xa1 : Int32) (xa2 : Int32) (xa3 : Int32) : d_X10_ahead σ xa1 xa2 xa3 = zin cc_X10_ahead (fun t => none) 0 krI b_X10_ahead 0 σ [vR 10 0, vI xa1, vI xa2, vI xa3] [] := by
  unfold d_X10_ahead
  refine Eq.symm ((zin_b (es := q_X10_ahead_0) rfl).trans ?_)
  refine (t_X10_ahead_0 _ _ _ _ _).trans ?_
  refine (x_callV rfl rfl rfl rfl).trans ((cl_X10_ahead_X10_isLaw _ _ _).trans ((gr_X10_isLaw _ _ _).trans (pbd fun _ => ?_)))
  refine x_if.trans (pif_eq ?_ ?_)
  · refine (zrun_b (es := q_X10_ahead_28) rfl rfl).trans ?_
    refine (t_X10_ahead_28 _ _ _ _ _ _ _).trans ?_
    exact x_iret
  · refine (t_X10_ahead_8 _ _ _ _ _).trans ?_
    refine x_if.trans (pif_lt ?_ ?_)
    · refine (zrun_b (es := q_X10_ahead_28) rfl rfl).trans ?_
      refine (t_X10_ahead_28 _ _ _ _ _ _ _).trans ?_
      exact x_iret
    · refine (t_X10_ahead_12 _ _ _ _ _ _).trans ?_
      refine x_icmp.trans (pif_gt ?_ ?_)
      · refine (zrun_b (es := q_X10_ahead_28) rfl rfl).trans ?_
        refine (t_X10_ahead_28 _ _ _ _ _ _ _).trans ?_
        exact x_iret
      · refine (t_X10_ahead_19 _ _ _ _ _).trans ?_
        refine x_if.trans (pif_lt ?_ ?_)
        · refine (zrun_b (es := q_X10_ahead_28) rfl rfl).trans ?_
          refine (t_X10_ahead_28 _ _ _ _ _ _ _).trans ?_
          exact x_iret
        · refine (t_X10_ahead_23 _ _ _ _ _ _).trans ?_
          refine x_icmp.trans (pif_le ?_ ?_)
          · refine (zrun_b (es := q_X10_ahead_30) rfl rfl).trans ?_
            refine (t_X10_ahead_30 _ _ _ _ _).trans ?_
            refine (x_aald (N := 6) rfl rfl rfl rfl).trans (pix fun _ => ?_)
            refine (t_X10_ahead_40 _ _ _ _ _ _).trans ?_
            refine (x_callV rfl rfl rfl rfl).trans ((cl_X10_ahead_X2_play _ _ _).trans ((gr_X2_play _ _ _ _).trans (pbd fun _ => ?_)))
            refine (t_X10_ahead_44 _ _ _ _ _).trans ?_
            refine (x_callV rfl rfl rfl rfl).trans ((cl_X10_ahead_X2_outcome _ _ _).trans ((gr_X2_outcome _ _ _).trans (pbd fun _ => ?_)))
            exact x_iret
          · refine (t_X10_ahead_28 _ _ _ _ _ _ _).trans ?_
            exact x_iret
noncomputable def g_X10_ahead {ρ : Type} (σ : zH) (av : List zAV) (q : zH → zAV → Option ρ) : Option ρ := match av with
  | [.inr (.inr (.inl (10, 0))), .inl xa1, .inl xa2, .inl xa3] => (d_X10_ahead σ xa1 xa2 xa3).bind fun p => q p.1 (vI p.2)
  | _ => none
theorem gr_X10_ahead {ρ : Type} (σ : zH) (xa1 : Int32) (xa2 : Int32) (xa3 : Int32) (q : zH → zAV → Option ρ) : g_X10_ahead σ [vR 10 0, vI xa1, vI xa2, vI xa3] q = (d_X10_ahead σ xa1 xa2 xa3).bind fun p => q p.1 (vI p.2) := rfl
theorem c_X10_ahead {ρ : Type} {X : zX} (hX : zHX X) {σ : zH} {av : List zAV} {q : zH → zAV → Option ρ} {r : ρ} (h : g_X10_ahead σ av q = some r) (hv : ∀ a ∈ av, zval X a) : zcon X 110 σ av q r := by
  unfold g_X10_ahead at h
  split at h
  · exact zcon_I (n := 110) (ml := 4) (rc := 0) (st := 0) (kd := 10) (np := 3) (by decide +kernel) (by decide) ⟨_, _, rfl, rfl⟩ (Nat.le_of_ble_eq_true rfl) hv h (fun y h1 => (zin_ok (hy_X10_ahead hX) bk_X10_ahead (fun t f hf => by
      cases hf) ((e_X10_ahead _ _ _ _).symm.trans h1)))
  · cases h
/-! SleepWaves.struck(IIII)I -/
def q_X10_struck_40 : List zEnt := zE 40 .ireturn 1 :: []
def q_X10_struck_39 : List zEnt := zEk 39 (.iconst (-1)) 1 (-1) :: q_X10_struck_40
def q_X10_struck_36 : List zEnt := zEa 36 (.if_icmp .le 5) 3 41 :: q_X10_struck_39
def q_X10_struck_33 : List zEnt := zE 33 (.iload 4) 2 :: zEk 35 (.iconst 4) 1 4 :: q_X10_struck_36
def q_X10_struck_30 : List zEnt := zEa 30 (.ifCond .lt 9) 3 39 :: q_X10_struck_33
def q_X10_struck_28 : List zEnt := zE 28 (.iload 4) 2 :: q_X10_struck_30
def q_X10_struck_25 : List zEnt := zEa 25 (.if_icmp .ge 14) 3 39 :: q_X10_struck_28
def q_X10_struck_23 : List zEnt := zE 23 (.iload_n 2) 1 :: zE 24 (.iload_n 3) 1 :: q_X10_struck_25
def q_X10_struck_20 : List zEnt := zEa 20 (.ifCond .lt 19) 3 39 :: q_X10_struck_23
def q_X10_struck_19 : List zEnt := zE 19 (.iload_n 2) 1 :: q_X10_struck_20
def q_X10_struck_16 : List zEnt := zEa 16 (.if_icmp .gt 23) 3 39 :: q_X10_struck_19
def q_X10_struck_12 : List zEnt := zE 12 (.iload_n 3) 1 :: zEk 13 (.sipush 192) 3 192 :: q_X10_struck_16
def q_X10_struck_9 : List zEnt := zEa 9 (.ifCond .lt 30) 3 39 :: q_X10_struck_12
def q_X10_struck_8 : List zEnt := zE 8 (.iload_n 3) 1 :: q_X10_struck_9
def q_X10_struck_5 : List zEnt := zEa 5 (.ifCond .eq 34) 3 39 :: q_X10_struck_8
def q_X10_struck_2 : List zEnt := zEc 2 (.invokevirtual 122) 3 122 2 50 0 :: q_X10_struck_5
def q_X10_struck_0 : List zEnt := zE 0 (.aload_n 0) 1 :: zE 1 (.iload_n 1) 1 :: q_X10_struck_2
def q_X10_struck_65 : List zEnt := zE 65 .ireturn 1 :: []
def q_X10_struck_62 : List zEnt := zEc 62 (.invokevirtual 248) 3 19 2 93 0 :: q_X10_struck_65
def q_X10_struck_56 : List zEnt := zE 56 (.aload_n 0) 1 :: zEf 57 (.getfield 82) 3 10 11 147 (2, 2, 0) :: zE 60 (.iload 4) 2 :: q_X10_struck_62
def q_X10_struck_53 : List zEnt := zEc 53 (.invokevirtual 251) 3 18 4 95 1 :: q_X10_struck_56
def q_X10_struck_51 : List zEnt := zE 51 (.iload_n 2) 1 :: zE 52 (.iload_n 3) 1 :: q_X10_struck_53
def q_X10_struck_50 : List zEnt := zE 50 .aaload 1 :: q_X10_struck_51
def q_X10_struck_41 : List zEnt := zE 41 (.aload_n 0) 1 :: zEf 42 (.getfield 82) 3 10 11 147 (2, 2, 0) :: zE 45 (.aload_n 0) 1 :: zEf 46 (.getfield 46) 3 10 4 140 (2, 38, 0) :: zE 49 (.iload_n 1) 1 :: q_X10_struck_50
def b_X10_struck : List (Nat × List zEnt) := [(0, q_X10_struck_0), (39, q_X10_struck_39), (41, q_X10_struck_41)]
theorem bk_X10_struck : zchB 111 b_X10_struck = true := by decide +kernel
noncomputable def cc_X10_struck {ρ : Type} : Nat → zH → List zAV → (zH → zAV → Option ρ) → Option ρ := fun n σ av q => if n = 122 then g_X10_isLaw σ av q else if n = 18 then g_X2_playStruck σ av q else if n = 19 then g_X2_outcome σ av q else none
theorem cs_X10_struck {ρ : Type} {X : zX} (hX : zHX X) : zCS X (cc_X10_struck (ρ := ρ)) := by
  intro n σ av q r h hv
  unfold cc_X10_struck at h
  by_cases e_X10_isLaw : n = 122
  · rw [if_pos e_X10_isLaw] at h
    subst e_X10_isLaw
    exact c_X10_isLaw hX h hv
  rw [if_neg e_X10_isLaw] at h
  by_cases e_X2_playStruck : n = 18
  · rw [if_pos e_X2_playStruck] at h
    subst e_X2_playStruck
    exact c_X2_playStruck hX h hv
  rw [if_neg e_X2_playStruck] at h
  by_cases e_X2_outcome : n = 19
  · rw [if_pos e_X2_outcome] at h
    subst e_X2_outcome
    exact c_X2_outcome hX h hv
  rw [if_neg e_X2_outcome] at h
  cases h
theorem cl_X10_struck_X10_isLaw {ρ : Type} (σ : zH) (av : List zAV) (q : zH → zAV → Option ρ) : cc_X10_struck 122 σ av q = g_X10_isLaw σ av q := rfl
theorem cl_X10_struck_X2_playStruck {ρ : Type} (σ : zH) (av : List zAV) (q : zH → zAV → Option ρ) : cc_X10_struck 18 σ av q = g_X2_playStruck σ av q := rfl
theorem cl_X10_struck_X2_outcome {ρ : Type} (σ : zH) (av : List zAV) (q : zH → zAV → Option ρ) : cc_X10_struck 19 σ av q = g_X2_outcome σ av q := rfl
theorem hy_X10_struck {ρ : Type} {X : zX} (hX : zHX X) : zHY X 111 (cc_X10_struck (ρ := ρ)) := zHX.hY hX (cs_X10_struck hX) (zmok_all 111 (by decide))
theorem t_X10_struck_0 {G : Nat → zH → List zAV → List zAV → Option (zH × Int32)} (es : List zEnt) (σ : zH) (x1 : Int32) (x2 : Int32) (x3 : Int32) (x4 : Int32)   : zev cc_X10_struck G 0 krI (zE 0 (.aload_n 0) 1 :: zE 1 (.iload_n 1) 1 :: es) σ [vR 10 0, vI x1, vI x2, vI x3, vI x4] [] = zev cc_X10_struck G 0 krI es σ [vR 10 0, vI x1, vI x2, vI x3, vI x4] [vI x1, vR 10 0] := rfl
theorem t_X10_struck_8 {G : Nat → zH → List zAV → List zAV → Option (zH × Int32)} (es : List zEnt) (σ : zH) (x1 : Int32) (x2 : Int32) (x3 : Int32) (x4 : Int32)   : zev cc_X10_struck G 0 krI (zE 8 (.iload_n 3) 1 :: es) σ [vR 10 0, vI x1, vI x2, vI x3, vI x4] [] = zev cc_X10_struck G 0 krI es σ [vR 10 0, vI x1, vI x2, vI x3, vI x4] [vI x3] := rfl
theorem t_X10_struck_12 {G : Nat → zH → List zAV → List zAV → Option (zH × Int32)} (es : List zEnt) (σ : zH) (x1 : Int32) (x2 : Int32) (x3 : Int32) (x4 : Int32)  (w13 : Int32) : zev cc_X10_struck G 0 krI (zE 12 (.iload_n 3) 1 :: zEk 13 (.sipush 192) 3 w13 :: es) σ [vR 10 0, vI x1, vI x2, vI x3, vI x4] [] = zev cc_X10_struck G 0 krI es σ [vR 10 0, vI x1, vI x2, vI x3, vI x4] [vI w13, vI x3] := rfl
theorem t_X10_struck_19 {G : Nat → zH → List zAV → List zAV → Option (zH × Int32)} (es : List zEnt) (σ : zH) (x1 : Int32) (x2 : Int32) (x3 : Int32) (x4 : Int32)   : zev cc_X10_struck G 0 krI (zE 19 (.iload_n 2) 1 :: es) σ [vR 10 0, vI x1, vI x2, vI x3, vI x4] [] = zev cc_X10_struck G 0 krI es σ [vR 10 0, vI x1, vI x2, vI x3, vI x4] [vI x2] := rfl
theorem t_X10_struck_23 {G : Nat → zH → List zAV → List zAV → Option (zH × Int32)} (es : List zEnt) (σ : zH) (x1 : Int32) (x2 : Int32) (x3 : Int32) (x4 : Int32)   : zev cc_X10_struck G 0 krI (zE 23 (.iload_n 2) 1 :: zE 24 (.iload_n 3) 1 :: es) σ [vR 10 0, vI x1, vI x2, vI x3, vI x4] [] = zev cc_X10_struck G 0 krI es σ [vR 10 0, vI x1, vI x2, vI x3, vI x4] [vI x3, vI x2] := rfl
theorem t_X10_struck_28 {G : Nat → zH → List zAV → List zAV → Option (zH × Int32)} (es : List zEnt) (σ : zH) (x1 : Int32) (x2 : Int32) (x3 : Int32) (x4 : Int32)   : zev cc_X10_struck G 0 krI (zE 28 (.iload 4) 2 :: es) σ [vR 10 0, vI x1, vI x2, vI x3, vI x4] [] = zev cc_X10_struck G 0 krI es σ [vR 10 0, vI x1, vI x2, vI x3, vI x4] [vI x4] := rfl
theorem t_X10_struck_33 {G : Nat → zH → List zAV → List zAV → Option (zH × Int32)} (es : List zEnt) (σ : zH) (x1 : Int32) (x2 : Int32) (x3 : Int32) (x4 : Int32)  (w35 : Int32) : zev cc_X10_struck G 0 krI (zE 33 (.iload 4) 2 :: zEk 35 (.iconst 4) 1 w35 :: es) σ [vR 10 0, vI x1, vI x2, vI x3, vI x4] [] = zev cc_X10_struck G 0 krI es σ [vR 10 0, vI x1, vI x2, vI x3, vI x4] [vI w35, vI x4] := rfl
theorem t_X10_struck_39 {G : Nat → zH → List zAV → List zAV → Option (zH × Int32)} (es : List zEnt) (σ : zH)  (y0 : zAV) (y1 : zAV) (y2 : zAV) (y3 : zAV) (y4 : zAV) (w39 : Int32) : zev cc_X10_struck G 0 krI (zEk 39 (.iconst (-1)) 1 w39 :: es) σ [y0, y1, y2, y3, y4] [] = zev cc_X10_struck G 0 krI es σ [y0, y1, y2, y3, y4] [vI w39] := rfl
theorem t_X10_struck_41 {G : Nat → zH → List zAV → List zAV → Option (zH × Int32)} (es : List zEnt) (σ : zH) (x1 : Int32) (x2 : Int32) (x3 : Int32) (x4 : Int32)   : zev cc_X10_struck G 0 krI (zE 41 (.aload_n 0) 1 :: zEf 42 (.getfield 82) 3 10 11 147 (2, 2, 0) :: zE 45 (.aload_n 0) 1 :: zEf 46 (.getfield 46) 3 10 4 140 (2, 38, 0) :: zE 49 (.iload_n 1) 1 :: es) σ [vR 10 0, vI x1, vI x2, vI x3, vI x4] [] = zev cc_X10_struck G 0 krI es σ [vR 10 0, vI x1, vI x2, vI x3, vI x4] [vI x1, vR 38 0, vR 2 0] := rfl
theorem t_X10_struck_51 {G : Nat → zH → List zAV → List zAV → Option (zH × Int32)} (es : List zEnt) (σ : zH) (x2 : Int32) (x3 : Int32) (x4 : Int32) (is1 : Nat) (y1 : zAV)  : zev cc_X10_struck G 0 krI (zE 51 (.iload_n 2) 1 :: zE 52 (.iload_n 3) 1 :: es) σ [vR 10 0, y1, vI x2, vI x3, vI x4] [vR 4 is1, vR 2 0] = zev cc_X10_struck G 0 krI es σ [vR 10 0, y1, vI x2, vI x3, vI x4] [vI x3, vI x2, vR 4 is1, vR 2 0] := rfl
theorem t_X10_struck_56 {G : Nat → zH → List zAV → List zAV → Option (zH × Int32)} (es : List zEnt) (σ : zH) (x4 : Int32) (y1 : zAV) (y2 : zAV) (y3 : zAV)  : zev cc_X10_struck G 0 krI (zE 56 (.aload_n 0) 1 :: zEf 57 (.getfield 82) 3 10 11 147 (2, 2, 0) :: zE 60 (.iload 4) 2 :: es) σ [vR 10 0, y1, y2, y3, vI x4] [] = zev cc_X10_struck G 0 krI es σ [vR 10 0, y1, y2, y3, vI x4] [vI x4, vR 2 0] := rfl
noncomputable def d_X10_struck (σ : zH) (xa1 : Int32) (xa2 : Int32) (xa3 : Int32) (xa4 : Int32) : Option (zH × Int32) :=
  (d_X10_isLaw σ xa1).bind fun p1 =>
  if p1.2 = 0 then
    some (p1.1, (-1 : Int32))
  else
    if xa3 < 0 then
      some (p1.1, (-1 : Int32))
    else
      if (192 : Int32) < xa3 then
        some (p1.1, (-1 : Int32))
      else
        if xa2 < 0 then
          some (p1.1, (-1 : Int32))
        else
          if xa2 < xa3 then
            if xa4 < 0 then
              some (p1.1, (-1 : Int32))
            else
              if (4 : Int32) < xa4 then
                some (p1.1, (-1 : Int32))
              else
                ix xa1 6 fun j2 =>
                (d_X2_playStruck p1.1 (0 + j2) xa2 xa3).bind fun σ3 =>
                (d_X2_outcome σ3 xa4).bind fun p4 =>
                some (p4.1, p4.2)
          else
            some (p1.1, (-1 : Int32))
theorem e_X10_struck (σ : zH) (xa1 : Int32) (xa2 : Int32) (xa3 : Int32) (xa4 : Int32) : d_X10_struck σ xa1 xa2 xa3 xa4 = zin cc_X10_struck (fun t => none) 0 krI b_X10_struck 0 σ [vR 10 0, vI xa1, vI xa2, vI xa3, vI xa4] [] := by
  unfold d_X10_struck
  refine Eq.symm ((zin_b (es := q_X10_struck_0) rfl).trans ?_)
  refine (t_X10_struck_0 _ _ _ _ _ _).trans ?_
  refine (x_callV rfl rfl rfl rfl).trans ((cl_X10_struck_X10_isLaw _ _ _).trans ((gr_X10_isLaw _ _ _).trans (pbd fun _ => ?_)))
  refine x_if.trans (pif_eq ?_ ?_)
  · refine (zrun_b (es := q_X10_struck_39) rfl rfl).trans ?_
    refine (t_X10_struck_39 _ _ _ _ _ _ _ _).trans ?_
    exact x_iret
  · refine (t_X10_struck_8 _ _ _ _ _ _).trans ?_
    refine x_if.trans (pif_lt ?_ ?_)
    · refine (zrun_b (es := q_X10_struck_39) rfl rfl).trans ?_
      refine (t_X10_struck_39 _ _ _ _ _ _ _ _).trans ?_
      exact x_iret
    · refine (t_X10_struck_12 _ _ _ _ _ _ _).trans ?_
      refine x_icmp.trans (pif_gt ?_ ?_)
      · refine (zrun_b (es := q_X10_struck_39) rfl rfl).trans ?_
        refine (t_X10_struck_39 _ _ _ _ _ _ _ _).trans ?_
        exact x_iret
      · refine (t_X10_struck_19 _ _ _ _ _ _).trans ?_
        refine x_if.trans (pif_lt ?_ ?_)
        · refine (zrun_b (es := q_X10_struck_39) rfl rfl).trans ?_
          refine (t_X10_struck_39 _ _ _ _ _ _ _ _).trans ?_
          exact x_iret
        · refine (t_X10_struck_23 _ _ _ _ _ _).trans ?_
          refine x_icmp.trans (pif_ge ?_ ?_)
          · refine (zrun_b (es := q_X10_struck_39) rfl rfl).trans ?_
            refine (t_X10_struck_39 _ _ _ _ _ _ _ _).trans ?_
            exact x_iret
          · refine (t_X10_struck_28 _ _ _ _ _ _).trans ?_
            refine x_if.trans (pif_lt ?_ ?_)
            · refine (zrun_b (es := q_X10_struck_39) rfl rfl).trans ?_
              refine (t_X10_struck_39 _ _ _ _ _ _ _ _).trans ?_
              exact x_iret
            · refine (t_X10_struck_33 _ _ _ _ _ _ _).trans ?_
              refine x_icmp.trans (pif_le ?_ ?_)
              · refine (zrun_b (es := q_X10_struck_41) rfl rfl).trans ?_
                refine (t_X10_struck_41 _ _ _ _ _ _).trans ?_
                refine (x_aald (N := 6) rfl rfl rfl rfl).trans (pix fun _ => ?_)
                refine (t_X10_struck_51 _ _ _ _ _ _ _).trans ?_
                refine (x_callV rfl rfl rfl rfl).trans ((cl_X10_struck_X2_playStruck _ _ _).trans ((gr_X2_playStruck _ _ _ _ _).trans (pbd fun _ => ?_)))
                refine (t_X10_struck_56 _ _ _ _ _ _).trans ?_
                refine (x_callV rfl rfl rfl rfl).trans ((cl_X10_struck_X2_outcome _ _ _).trans ((gr_X2_outcome _ _ _).trans (pbd fun _ => ?_)))
                exact x_iret
              · refine (t_X10_struck_39 _ _ _ _ _ _ _ _).trans ?_
                exact x_iret
noncomputable def g_X10_struck {ρ : Type} (σ : zH) (av : List zAV) (q : zH → zAV → Option ρ) : Option ρ := match av with
  | [.inr (.inr (.inl (10, 0))), .inl xa1, .inl xa2, .inl xa3, .inl xa4] => (d_X10_struck σ xa1 xa2 xa3 xa4).bind fun p => q p.1 (vI p.2)
  | _ => none
theorem gr_X10_struck {ρ : Type} (σ : zH) (xa1 : Int32) (xa2 : Int32) (xa3 : Int32) (xa4 : Int32) (q : zH → zAV → Option ρ) : g_X10_struck σ [vR 10 0, vI xa1, vI xa2, vI xa3, vI xa4] q = (d_X10_struck σ xa1 xa2 xa3 xa4).bind fun p => q p.1 (vI p.2) := rfl
theorem c_X10_struck {ρ : Type} {X : zX} (hX : zHX X) {σ : zH} {av : List zAV} {q : zH → zAV → Option ρ} {r : ρ} (h : g_X10_struck σ av q = some r) (hv : ∀ a ∈ av, zval X a) : zcon X 111 σ av q r := by
  unfold g_X10_struck at h
  split at h
  · exact zcon_I (n := 111) (ml := 5) (rc := 0) (st := 0) (kd := 10) (np := 4) (by decide +kernel) (by decide) ⟨_, _, rfl, rfl⟩ (Nat.le_of_ble_eq_true rfl) hv h (fun y h1 => (zin_ok (hy_X10_struck hX) bk_X10_struck (fun t f hf => by
      cases hf) ((e_X10_struck _ _ _ _ _).symm.trans h1)))
  · cases h
/-! SleepWaves.turned(IIII)I -/
def q_X10_turned_39 : List zEnt := zE 39 .ireturn 1 :: []
def q_X10_turned_38 : List zEnt := zEk 38 (.iconst (-1)) 1 (-1) :: q_X10_turned_39
def q_X10_turned_35 : List zEnt := zEa 35 (.if_icmp .le 5) 3 40 :: q_X10_turned_38
def q_X10_turned_32 : List zEnt := zE 32 (.iload 4) 2 :: zEk 34 (.iconst 2) 1 2 :: q_X10_turned_35
def q_X10_turned_29 : List zEnt := zEa 29 (.ifCond .lt 9) 3 38 :: q_X10_turned_32
def q_X10_turned_27 : List zEnt := zE 27 (.iload 4) 2 :: q_X10_turned_29
def q_X10_turned_24 : List zEnt := zEa 24 (.if_icmp .gt 14) 3 38 :: q_X10_turned_27
def q_X10_turned_21 : List zEnt := zE 21 (.iload_n 3) 1 :: zEk 22 (.bipush 96) 2 96 :: q_X10_turned_24
def q_X10_turned_18 : List zEnt := zEa 18 (.if_icmp .lt 20) 3 38 :: q_X10_turned_21
def q_X10_turned_16 : List zEnt := zE 16 (.iload_n 3) 1 :: zEk 17 (.iconst 1) 1 1 :: q_X10_turned_18
def q_X10_turned_13 : List zEnt := zEa 13 (.ifCond .eq 25) 3 38 :: q_X10_turned_16
def q_X10_turned_10 : List zEnt := zEc 10 (.invokevirtual 236) 3 124 2 85 0 :: q_X10_turned_13
def q_X10_turned_8 : List zEnt := zE 8 (.aload_n 0) 1 :: zE 9 (.iload_n 2) 1 :: q_X10_turned_10
def q_X10_turned_5 : List zEnt := zEa 5 (.ifCond .eq 33) 3 38 :: q_X10_turned_8
def q_X10_turned_2 : List zEnt := zEc 2 (.invokevirtual 122) 3 122 2 50 0 :: q_X10_turned_5
def q_X10_turned_0 : List zEnt := zE 0 (.aload_n 0) 1 :: zE 1 (.iload_n 1) 1 :: q_X10_turned_2
def q_X10_turned_65 : List zEnt := zE 65 .ireturn 1 :: []
def q_X10_turned_64 : List zEnt := zE 64 .iaload 1 :: q_X10_turned_65
def q_X10_turned_55 : List zEnt := zE 55 (.aload_n 0) 1 :: zEf 56 (.getfield 82) 3 10 11 147 (2, 2, 0) :: zEf 59 (.getfield 258) 3 2 4 132 (2, 22, 0) :: zE 62 (.iload 4) 2 :: q_X10_turned_64
def q_X10_turned_52 : List zEnt := zEc 52 (.invokevirtual 255) 3 20 4 97 1 :: q_X10_turned_55
def q_X10_turned_50 : List zEnt := zE 50 (.iload_n 2) 1 :: zE 51 (.iload_n 3) 1 :: q_X10_turned_52
def q_X10_turned_49 : List zEnt := zE 49 .aaload 1 :: q_X10_turned_50
def q_X10_turned_40 : List zEnt := zE 40 (.aload_n 0) 1 :: zEf 41 (.getfield 82) 3 10 11 147 (2, 2, 0) :: zE 44 (.aload_n 0) 1 :: zEf 45 (.getfield 46) 3 10 4 140 (2, 38, 0) :: zE 48 (.iload_n 1) 1 :: q_X10_turned_49
def b_X10_turned : List (Nat × List zEnt) := [(0, q_X10_turned_0), (38, q_X10_turned_38), (40, q_X10_turned_40)]
theorem bk_X10_turned : zchB 112 b_X10_turned = true := by decide +kernel
noncomputable def cc_X10_turned {ρ : Type} : Nat → zH → List zAV → (zH → zAV → Option ρ) → Option ρ := fun n σ av q => if n = 122 then g_X10_isLaw σ av q else if n = 124 then g_X10_areCompanies σ av q else if n = 20 then g_X2_findTurn σ av q else none
theorem cs_X10_turned {ρ : Type} {X : zX} (hX : zHX X) : zCS X (cc_X10_turned (ρ := ρ)) := by
  intro n σ av q r h hv
  unfold cc_X10_turned at h
  by_cases e_X10_isLaw : n = 122
  · rw [if_pos e_X10_isLaw] at h
    subst e_X10_isLaw
    exact c_X10_isLaw hX h hv
  rw [if_neg e_X10_isLaw] at h
  by_cases e_X10_areCompanies : n = 124
  · rw [if_pos e_X10_areCompanies] at h
    subst e_X10_areCompanies
    exact c_X10_areCompanies hX h hv
  rw [if_neg e_X10_areCompanies] at h
  by_cases e_X2_findTurn : n = 20
  · rw [if_pos e_X2_findTurn] at h
    subst e_X2_findTurn
    exact c_X2_findTurn hX h hv
  rw [if_neg e_X2_findTurn] at h
  cases h
theorem cl_X10_turned_X10_isLaw {ρ : Type} (σ : zH) (av : List zAV) (q : zH → zAV → Option ρ) : cc_X10_turned 122 σ av q = g_X10_isLaw σ av q := rfl
theorem cl_X10_turned_X10_areCompanies {ρ : Type} (σ : zH) (av : List zAV) (q : zH → zAV → Option ρ) : cc_X10_turned 124 σ av q = g_X10_areCompanies σ av q := rfl
theorem cl_X10_turned_X2_findTurn {ρ : Type} (σ : zH) (av : List zAV) (q : zH → zAV → Option ρ) : cc_X10_turned 20 σ av q = g_X2_findTurn σ av q := rfl
theorem hy_X10_turned {ρ : Type} {X : zX} (hX : zHX X) : zHY X 112 (cc_X10_turned (ρ := ρ)) := zHX.hY hX (cs_X10_turned hX) (zmok_all 112 (by decide))
theorem t_X10_turned_0 {G : Nat → zH → List zAV → List zAV → Option (zH × Int32)} (es : List zEnt) (σ : zH) (x1 : Int32) (x2 : Int32) (x3 : Int32) (x4 : Int32)   : zev cc_X10_turned G 0 krI (zE 0 (.aload_n 0) 1 :: zE 1 (.iload_n 1) 1 :: es) σ [vR 10 0, vI x1, vI x2, vI x3, vI x4] [] = zev cc_X10_turned G 0 krI es σ [vR 10 0, vI x1, vI x2, vI x3, vI x4] [vI x1, vR 10 0] := rfl
theorem t_X10_turned_8 {G : Nat → zH → List zAV → List zAV → Option (zH × Int32)} (es : List zEnt) (σ : zH) (x1 : Int32) (x2 : Int32) (x3 : Int32) (x4 : Int32)   : zev cc_X10_turned G 0 krI (zE 8 (.aload_n 0) 1 :: zE 9 (.iload_n 2) 1 :: es) σ [vR 10 0, vI x1, vI x2, vI x3, vI x4] [] = zev cc_X10_turned G 0 krI es σ [vR 10 0, vI x1, vI x2, vI x3, vI x4] [vI x2, vR 10 0] := rfl
theorem t_X10_turned_16 {G : Nat → zH → List zAV → List zAV → Option (zH × Int32)} (es : List zEnt) (σ : zH) (x1 : Int32) (x2 : Int32) (x3 : Int32) (x4 : Int32)  (w17 : Int32) : zev cc_X10_turned G 0 krI (zE 16 (.iload_n 3) 1 :: zEk 17 (.iconst 1) 1 w17 :: es) σ [vR 10 0, vI x1, vI x2, vI x3, vI x4] [] = zev cc_X10_turned G 0 krI es σ [vR 10 0, vI x1, vI x2, vI x3, vI x4] [vI w17, vI x3] := rfl
theorem t_X10_turned_21 {G : Nat → zH → List zAV → List zAV → Option (zH × Int32)} (es : List zEnt) (σ : zH) (x1 : Int32) (x2 : Int32) (x3 : Int32) (x4 : Int32)  (w22 : Int32) : zev cc_X10_turned G 0 krI (zE 21 (.iload_n 3) 1 :: zEk 22 (.bipush 96) 2 w22 :: es) σ [vR 10 0, vI x1, vI x2, vI x3, vI x4] [] = zev cc_X10_turned G 0 krI es σ [vR 10 0, vI x1, vI x2, vI x3, vI x4] [vI w22, vI x3] := rfl
theorem t_X10_turned_27 {G : Nat → zH → List zAV → List zAV → Option (zH × Int32)} (es : List zEnt) (σ : zH) (x1 : Int32) (x2 : Int32) (x3 : Int32) (x4 : Int32)   : zev cc_X10_turned G 0 krI (zE 27 (.iload 4) 2 :: es) σ [vR 10 0, vI x1, vI x2, vI x3, vI x4] [] = zev cc_X10_turned G 0 krI es σ [vR 10 0, vI x1, vI x2, vI x3, vI x4] [vI x4] := rfl
theorem t_X10_turned_32 {G : Nat → zH → List zAV → List zAV → Option (zH × Int32)} (es : List zEnt) (σ : zH) (x1 : Int32) (x2 : Int32) (x3 : Int32) (x4 : Int32)  (w34 : Int32) : zev cc_X10_turned G 0 krI (zE 32 (.iload 4) 2 :: zEk 34 (.iconst 2) 1 w34 :: es) σ [vR 10 0, vI x1, vI x2, vI x3, vI x4] [] = zev cc_X10_turned G 0 krI es σ [vR 10 0, vI x1, vI x2, vI x3, vI x4] [vI w34, vI x4] := rfl
theorem t_X10_turned_38 {G : Nat → zH → List zAV → List zAV → Option (zH × Int32)} (es : List zEnt) (σ : zH)  (y0 : zAV) (y1 : zAV) (y2 : zAV) (y3 : zAV) (y4 : zAV) (w38 : Int32) : zev cc_X10_turned G 0 krI (zEk 38 (.iconst (-1)) 1 w38 :: es) σ [y0, y1, y2, y3, y4] [] = zev cc_X10_turned G 0 krI es σ [y0, y1, y2, y3, y4] [vI w38] := rfl
theorem t_X10_turned_40 {G : Nat → zH → List zAV → List zAV → Option (zH × Int32)} (es : List zEnt) (σ : zH) (x1 : Int32) (x2 : Int32) (x3 : Int32) (x4 : Int32)   : zev cc_X10_turned G 0 krI (zE 40 (.aload_n 0) 1 :: zEf 41 (.getfield 82) 3 10 11 147 (2, 2, 0) :: zE 44 (.aload_n 0) 1 :: zEf 45 (.getfield 46) 3 10 4 140 (2, 38, 0) :: zE 48 (.iload_n 1) 1 :: es) σ [vR 10 0, vI x1, vI x2, vI x3, vI x4] [] = zev cc_X10_turned G 0 krI es σ [vR 10 0, vI x1, vI x2, vI x3, vI x4] [vI x1, vR 38 0, vR 2 0] := rfl
theorem t_X10_turned_50 {G : Nat → zH → List zAV → List zAV → Option (zH × Int32)} (es : List zEnt) (σ : zH) (x2 : Int32) (x3 : Int32) (x4 : Int32) (is1 : Nat) (y1 : zAV)  : zev cc_X10_turned G 0 krI (zE 50 (.iload_n 2) 1 :: zE 51 (.iload_n 3) 1 :: es) σ [vR 10 0, y1, vI x2, vI x3, vI x4] [vR 4 is1, vR 2 0] = zev cc_X10_turned G 0 krI es σ [vR 10 0, y1, vI x2, vI x3, vI x4] [vI x3, vI x2, vR 4 is1, vR 2 0] := rfl
theorem t_X10_turned_55 {G : Nat → zH → List zAV → List zAV → Option (zH × Int32)} (es : List zEnt) (σ : zH) (x4 : Int32) (y1 : zAV) (y2 : zAV) (y3 : zAV)  : zev cc_X10_turned G 0 krI (zE 55 (.aload_n 0) 1 :: zEf 56 (.getfield 82) 3 10 11 147 (2, 2, 0) :: zEf 59 (.getfield 258) 3 2 4 132 (2, 22, 0) :: zE 62 (.iload 4) 2 :: es) σ [vR 10 0, y1, y2, y3, vI x4] [] = zev cc_X10_turned G 0 krI es σ [vR 10 0, y1, y2, y3, vI x4] [vI x4, vR 22 0] := rfl
noncomputable def d_X10_turned (σ : zH) (xa1 : Int32) (xa2 : Int32) (xa3 : Int32) (xa4 : Int32) : Option (zH × Int32) :=
  (d_X10_isLaw σ xa1).bind fun p1 =>
  if p1.2 = 0 then
    some (p1.1, (-1 : Int32))
  else
    (d_X10_areCompanies p1.1 xa2).bind fun p2 =>
    if p2.2 = 0 then
      some (p2.1, (-1 : Int32))
    else
      if xa3 < (1 : Int32) then
        some (p2.1, (-1 : Int32))
      else
        if (96 : Int32) < xa3 then
          some (p2.1, (-1 : Int32))
        else
          if xa4 < 0 then
            some (p2.1, (-1 : Int32))
          else
            if (2 : Int32) < xa4 then
              some (p2.1, (-1 : Int32))
            else
              ix xa1 6 fun j3 =>
              (d_X2_findTurn p2.1 (0 + j3) xa2 xa3).bind fun σ4 =>
              ix xa4 3 fun j5 =>
              some (σ4, (σ4.1 22 0 j5))
theorem e_X10_turned (σ : zH) (xa1 : Int32) (xa2 : Int32) (xa3 : Int32) (xa4 : Int32) : d_X10_turned σ xa1 xa2 xa3 xa4 = zin cc_X10_turned (fun t => none) 0 krI b_X10_turned 0 σ [vR 10 0, vI xa1, vI xa2, vI xa3, vI xa4] [] := by
  unfold d_X10_turned
  refine Eq.symm ((zin_b (es := q_X10_turned_0) rfl).trans ?_)
  refine (t_X10_turned_0 _ _ _ _ _ _).trans ?_
  refine (x_callV rfl rfl rfl rfl).trans ((cl_X10_turned_X10_isLaw _ _ _).trans ((gr_X10_isLaw _ _ _).trans (pbd fun _ => ?_)))
  refine x_if.trans (pif_eq ?_ ?_)
  · refine (zrun_b (es := q_X10_turned_38) rfl rfl).trans ?_
    refine (t_X10_turned_38 _ _ _ _ _ _ _ _).trans ?_
    exact x_iret
  · refine (t_X10_turned_8 _ _ _ _ _ _).trans ?_
    refine (x_callV rfl rfl rfl rfl).trans ((cl_X10_turned_X10_areCompanies _ _ _).trans ((gr_X10_areCompanies _ _ _).trans (pbd fun _ => ?_)))
    refine x_if.trans (pif_eq ?_ ?_)
    · refine (zrun_b (es := q_X10_turned_38) rfl rfl).trans ?_
      refine (t_X10_turned_38 _ _ _ _ _ _ _ _).trans ?_
      exact x_iret
    · refine (t_X10_turned_16 _ _ _ _ _ _ _).trans ?_
      refine x_icmp.trans (pif_lt ?_ ?_)
      · refine (zrun_b (es := q_X10_turned_38) rfl rfl).trans ?_
        refine (t_X10_turned_38 _ _ _ _ _ _ _ _).trans ?_
        exact x_iret
      · refine (t_X10_turned_21 _ _ _ _ _ _ _).trans ?_
        refine x_icmp.trans (pif_gt ?_ ?_)
        · refine (zrun_b (es := q_X10_turned_38) rfl rfl).trans ?_
          refine (t_X10_turned_38 _ _ _ _ _ _ _ _).trans ?_
          exact x_iret
        · refine (t_X10_turned_27 _ _ _ _ _ _).trans ?_
          refine x_if.trans (pif_lt ?_ ?_)
          · refine (zrun_b (es := q_X10_turned_38) rfl rfl).trans ?_
            refine (t_X10_turned_38 _ _ _ _ _ _ _ _).trans ?_
            exact x_iret
          · refine (t_X10_turned_32 _ _ _ _ _ _ _).trans ?_
            refine x_icmp.trans (pif_le ?_ ?_)
            · refine (zrun_b (es := q_X10_turned_40) rfl rfl).trans ?_
              refine (t_X10_turned_40 _ _ _ _ _ _).trans ?_
              refine (x_aald (N := 6) rfl rfl rfl rfl).trans (pix fun _ => ?_)
              refine (t_X10_turned_50 _ _ _ _ _ _ _).trans ?_
              refine (x_callV rfl rfl rfl rfl).trans ((cl_X10_turned_X2_findTurn _ _ _).trans ((gr_X2_findTurn _ _ _ _ _).trans (pbd fun _ => ?_)))
              refine (t_X10_turned_55 _ _ _ _ _ _).trans ?_
              refine (x_iald (N := 3) rfl rfl).trans (pix fun _ => ?_)
              exact x_iret
            · refine (t_X10_turned_38 _ _ _ _ _ _ _ _).trans ?_
              exact x_iret
noncomputable def g_X10_turned {ρ : Type} (σ : zH) (av : List zAV) (q : zH → zAV → Option ρ) : Option ρ := match av with
  | [.inr (.inr (.inl (10, 0))), .inl xa1, .inl xa2, .inl xa3, .inl xa4] => (d_X10_turned σ xa1 xa2 xa3 xa4).bind fun p => q p.1 (vI p.2)
  | _ => none
theorem gr_X10_turned {ρ : Type} (σ : zH) (xa1 : Int32) (xa2 : Int32) (xa3 : Int32) (xa4 : Int32) (q : zH → zAV → Option ρ) : g_X10_turned σ [vR 10 0, vI xa1, vI xa2, vI xa3, vI xa4] q = (d_X10_turned σ xa1 xa2 xa3 xa4).bind fun p => q p.1 (vI p.2) := rfl
theorem c_X10_turned {ρ : Type} {X : zX} (hX : zHX X) {σ : zH} {av : List zAV} {q : zH → zAV → Option ρ} {r : ρ} (h : g_X10_turned σ av q = some r) (hv : ∀ a ∈ av, zval X a) : zcon X 112 σ av q r := by
  unfold g_X10_turned at h
  split at h
  · exact zcon_I (n := 112) (ml := 5) (rc := 0) (st := 0) (kd := 10) (np := 4) (by decide +kernel) (by decide) ⟨_, _, rfl, rfl⟩ (Nat.le_of_ble_eq_true rfl) hv h (fun y h1 => (zin_ok (hy_X10_turned hX) bk_X10_turned (fun t f hf => by
      cases hf) ((e_X10_turned _ _ _ _ _).symm.trans h1)))
  · cases h
/-! SleepWaves.mutiny(IIII)I -/
def q_X10_mutiny_39 : List zEnt := zE 39 .ireturn 1 :: []
def q_X10_mutiny_38 : List zEnt := zEk 38 (.iconst (-1)) 1 (-1) :: q_X10_mutiny_39
def q_X10_mutiny_35 : List zEnt := zEa 35 (.if_icmp .le 5) 3 40 :: q_X10_mutiny_38
def q_X10_mutiny_31 : List zEnt := zE 31 (.iload 4) 2 :: zEk 33 (.bipush 96) 2 96 :: q_X10_mutiny_35
def q_X10_mutiny_28 : List zEnt := zEa 28 (.ifCond .lt 10) 3 38 :: q_X10_mutiny_31
def q_X10_mutiny_26 : List zEnt := zE 26 (.iload 4) 2 :: q_X10_mutiny_28
def q_X10_mutiny_23 : List zEnt := zEa 23 (.if_icmp .gt 15) 3 38 :: q_X10_mutiny_26
def q_X10_mutiny_20 : List zEnt := zE 20 (.iload_n 3) 1 :: zEk 21 (.bipush 96) 2 96 :: q_X10_mutiny_23
def q_X10_mutiny_17 : List zEnt := zEa 17 (.ifCond .lt 21) 3 38 :: q_X10_mutiny_20
def q_X10_mutiny_16 : List zEnt := zE 16 (.iload_n 3) 1 :: q_X10_mutiny_17
def q_X10_mutiny_13 : List zEnt := zEa 13 (.ifCond .eq 25) 3 38 :: q_X10_mutiny_16
def q_X10_mutiny_10 : List zEnt := zEc 10 (.invokevirtual 138) 3 123 2 72 0 :: q_X10_mutiny_13
def q_X10_mutiny_8 : List zEnt := zE 8 (.aload_n 0) 1 :: zE 9 (.iload_n 2) 1 :: q_X10_mutiny_10
def q_X10_mutiny_5 : List zEnt := zEa 5 (.ifCond .eq 33) 3 38 :: q_X10_mutiny_8
def q_X10_mutiny_2 : List zEnt := zEc 2 (.invokevirtual 122) 3 122 2 50 0 :: q_X10_mutiny_5
def q_X10_mutiny_0 : List zEnt := zE 0 (.aload_n 0) 1 :: zE 1 (.iload_n 1) 1 :: q_X10_mutiny_2
def q_X10_mutiny_68 : List zEnt := zE 68 .ireturn 1 :: []
def q_X10_mutiny_65 : List zEnt := zEc 65 (.invokevirtual 264) 3 26 4 103 0 :: q_X10_mutiny_68
def q_X10_mutiny_57 : List zEnt := zE 57 (.aload_n 0) 1 :: zEf 58 (.getfield 89) 3 10 12 148 (2, 3, 0) :: zE 61 (.iload_n 2) 1 :: zE 62 (.iload_n 3) 1 :: zE 63 (.iload 4) 2 :: q_X10_mutiny_65
def q_X10_mutiny_54 : List zEnt := zEc 54 (.invokevirtual 261) 3 25 3 99 1 :: q_X10_mutiny_57
def q_X10_mutiny_50 : List zEnt := zE 50 (.iload_n 3) 1 :: zE 51 (.iload 4) 2 :: zE 53 .iadd 1 :: q_X10_mutiny_54
def q_X10_mutiny_49 : List zEnt := zE 49 .aaload 1 :: q_X10_mutiny_50
def q_X10_mutiny_40 : List zEnt := zE 40 (.aload_n 0) 1 :: zEf 41 (.getfield 89) 3 10 12 148 (2, 3, 0) :: zE 44 (.aload_n 0) 1 :: zEf 45 (.getfield 46) 3 10 4 140 (2, 38, 0) :: zE 48 (.iload_n 1) 1 :: q_X10_mutiny_49
def b_X10_mutiny : List (Nat × List zEnt) := [(0, q_X10_mutiny_0), (38, q_X10_mutiny_38), (40, q_X10_mutiny_40)]
theorem bk_X10_mutiny : zchB 113 b_X10_mutiny = true := by decide +kernel
noncomputable def cc_X10_mutiny {ρ : Type} : Nat → zH → List zAV → (zH → zAV → Option ρ) → Option ρ := fun n σ av q => if n = 122 then g_X10_isLaw σ av q else if n = 123 then g_X10_isCompany σ av q else if n = 25 then g_X3_foresee σ av q else if n = 26 then g_X3_menOfMutiny σ av q else none
theorem cs_X10_mutiny {ρ : Type} {X : zX} (hX : zHX X) : zCS X (cc_X10_mutiny (ρ := ρ)) := by
  intro n σ av q r h hv
  unfold cc_X10_mutiny at h
  by_cases e_X10_isLaw : n = 122
  · rw [if_pos e_X10_isLaw] at h
    subst e_X10_isLaw
    exact c_X10_isLaw hX h hv
  rw [if_neg e_X10_isLaw] at h
  by_cases e_X10_isCompany : n = 123
  · rw [if_pos e_X10_isCompany] at h
    subst e_X10_isCompany
    exact c_X10_isCompany hX h hv
  rw [if_neg e_X10_isCompany] at h
  by_cases e_X3_foresee : n = 25
  · rw [if_pos e_X3_foresee] at h
    subst e_X3_foresee
    exact c_X3_foresee hX h hv
  rw [if_neg e_X3_foresee] at h
  by_cases e_X3_menOfMutiny : n = 26
  · rw [if_pos e_X3_menOfMutiny] at h
    subst e_X3_menOfMutiny
    exact c_X3_menOfMutiny hX h hv
  rw [if_neg e_X3_menOfMutiny] at h
  cases h
theorem cl_X10_mutiny_X10_isLaw {ρ : Type} (σ : zH) (av : List zAV) (q : zH → zAV → Option ρ) : cc_X10_mutiny 122 σ av q = g_X10_isLaw σ av q := rfl
theorem cl_X10_mutiny_X10_isCompany {ρ : Type} (σ : zH) (av : List zAV) (q : zH → zAV → Option ρ) : cc_X10_mutiny 123 σ av q = g_X10_isCompany σ av q := rfl
theorem cl_X10_mutiny_X3_foresee {ρ : Type} (σ : zH) (av : List zAV) (q : zH → zAV → Option ρ) : cc_X10_mutiny 25 σ av q = g_X3_foresee σ av q := rfl
theorem cl_X10_mutiny_X3_menOfMutiny {ρ : Type} (σ : zH) (av : List zAV) (q : zH → zAV → Option ρ) : cc_X10_mutiny 26 σ av q = g_X3_menOfMutiny σ av q := rfl
theorem hy_X10_mutiny {ρ : Type} {X : zX} (hX : zHX X) : zHY X 113 (cc_X10_mutiny (ρ := ρ)) := zHX.hY hX (cs_X10_mutiny hX) (zmok_all 113 (by decide))
theorem t_X10_mutiny_0 {G : Nat → zH → List zAV → List zAV → Option (zH × Int32)} (es : List zEnt) (σ : zH) (x1 : Int32) (x2 : Int32) (x3 : Int32) (x4 : Int32)   : zev cc_X10_mutiny G 0 krI (zE 0 (.aload_n 0) 1 :: zE 1 (.iload_n 1) 1 :: es) σ [vR 10 0, vI x1, vI x2, vI x3, vI x4] [] = zev cc_X10_mutiny G 0 krI es σ [vR 10 0, vI x1, vI x2, vI x3, vI x4] [vI x1, vR 10 0] := rfl
theorem t_X10_mutiny_8 {G : Nat → zH → List zAV → List zAV → Option (zH × Int32)} (es : List zEnt) (σ : zH) (x1 : Int32) (x2 : Int32) (x3 : Int32) (x4 : Int32)   : zev cc_X10_mutiny G 0 krI (zE 8 (.aload_n 0) 1 :: zE 9 (.iload_n 2) 1 :: es) σ [vR 10 0, vI x1, vI x2, vI x3, vI x4] [] = zev cc_X10_mutiny G 0 krI es σ [vR 10 0, vI x1, vI x2, vI x3, vI x4] [vI x2, vR 10 0] := rfl
theorem t_X10_mutiny_16 {G : Nat → zH → List zAV → List zAV → Option (zH × Int32)} (es : List zEnt) (σ : zH) (x1 : Int32) (x2 : Int32) (x3 : Int32) (x4 : Int32)   : zev cc_X10_mutiny G 0 krI (zE 16 (.iload_n 3) 1 :: es) σ [vR 10 0, vI x1, vI x2, vI x3, vI x4] [] = zev cc_X10_mutiny G 0 krI es σ [vR 10 0, vI x1, vI x2, vI x3, vI x4] [vI x3] := rfl
theorem t_X10_mutiny_20 {G : Nat → zH → List zAV → List zAV → Option (zH × Int32)} (es : List zEnt) (σ : zH) (x1 : Int32) (x2 : Int32) (x3 : Int32) (x4 : Int32)  (w21 : Int32) : zev cc_X10_mutiny G 0 krI (zE 20 (.iload_n 3) 1 :: zEk 21 (.bipush 96) 2 w21 :: es) σ [vR 10 0, vI x1, vI x2, vI x3, vI x4] [] = zev cc_X10_mutiny G 0 krI es σ [vR 10 0, vI x1, vI x2, vI x3, vI x4] [vI w21, vI x3] := rfl
theorem t_X10_mutiny_26 {G : Nat → zH → List zAV → List zAV → Option (zH × Int32)} (es : List zEnt) (σ : zH) (x1 : Int32) (x2 : Int32) (x3 : Int32) (x4 : Int32)   : zev cc_X10_mutiny G 0 krI (zE 26 (.iload 4) 2 :: es) σ [vR 10 0, vI x1, vI x2, vI x3, vI x4] [] = zev cc_X10_mutiny G 0 krI es σ [vR 10 0, vI x1, vI x2, vI x3, vI x4] [vI x4] := rfl
theorem t_X10_mutiny_31 {G : Nat → zH → List zAV → List zAV → Option (zH × Int32)} (es : List zEnt) (σ : zH) (x1 : Int32) (x2 : Int32) (x3 : Int32) (x4 : Int32)  (w33 : Int32) : zev cc_X10_mutiny G 0 krI (zE 31 (.iload 4) 2 :: zEk 33 (.bipush 96) 2 w33 :: es) σ [vR 10 0, vI x1, vI x2, vI x3, vI x4] [] = zev cc_X10_mutiny G 0 krI es σ [vR 10 0, vI x1, vI x2, vI x3, vI x4] [vI w33, vI x4] := rfl
theorem t_X10_mutiny_38 {G : Nat → zH → List zAV → List zAV → Option (zH × Int32)} (es : List zEnt) (σ : zH)  (y0 : zAV) (y1 : zAV) (y2 : zAV) (y3 : zAV) (y4 : zAV) (w38 : Int32) : zev cc_X10_mutiny G 0 krI (zEk 38 (.iconst (-1)) 1 w38 :: es) σ [y0, y1, y2, y3, y4] [] = zev cc_X10_mutiny G 0 krI es σ [y0, y1, y2, y3, y4] [vI w38] := rfl
theorem t_X10_mutiny_40 {G : Nat → zH → List zAV → List zAV → Option (zH × Int32)} (es : List zEnt) (σ : zH) (x1 : Int32) (x2 : Int32) (x3 : Int32) (x4 : Int32)   : zev cc_X10_mutiny G 0 krI (zE 40 (.aload_n 0) 1 :: zEf 41 (.getfield 89) 3 10 12 148 (2, 3, 0) :: zE 44 (.aload_n 0) 1 :: zEf 45 (.getfield 46) 3 10 4 140 (2, 38, 0) :: zE 48 (.iload_n 1) 1 :: es) σ [vR 10 0, vI x1, vI x2, vI x3, vI x4] [] = zev cc_X10_mutiny G 0 krI es σ [vR 10 0, vI x1, vI x2, vI x3, vI x4] [vI x1, vR 38 0, vR 3 0] := rfl
theorem t_X10_mutiny_50 {G : Nat → zH → List zAV → List zAV → Option (zH × Int32)} (es : List zEnt) (σ : zH) (x2 : Int32) (x3 : Int32) (x4 : Int32) (is1 : Nat) (y1 : zAV)  : zev cc_X10_mutiny G 0 krI (zE 50 (.iload_n 3) 1 :: zE 51 (.iload 4) 2 :: zE 53 .iadd 1 :: es) σ [vR 10 0, y1, vI x2, vI x3, vI x4] [vR 4 is1, vR 3 0] = zev cc_X10_mutiny G 0 krI es σ [vR 10 0, y1, vI x2, vI x3, vI x4] [vI (x3 + x4), vR 4 is1, vR 3 0] := rfl
theorem t_X10_mutiny_57 {G : Nat → zH → List zAV → List zAV → Option (zH × Int32)} (es : List zEnt) (σ : zH) (x2 : Int32) (x3 : Int32) (x4 : Int32) (y1 : zAV)  : zev cc_X10_mutiny G 0 krI (zE 57 (.aload_n 0) 1 :: zEf 58 (.getfield 89) 3 10 12 148 (2, 3, 0) :: zE 61 (.iload_n 2) 1 :: zE 62 (.iload_n 3) 1 :: zE 63 (.iload 4) 2 :: es) σ [vR 10 0, y1, vI x2, vI x3, vI x4] [] = zev cc_X10_mutiny G 0 krI es σ [vR 10 0, y1, vI x2, vI x3, vI x4] [vI x4, vI x3, vI x2, vR 3 0] := rfl
noncomputable def d_X10_mutiny (σ : zH) (xa1 : Int32) (xa2 : Int32) (xa3 : Int32) (xa4 : Int32) : Option (zH × Int32) :=
  (d_X10_isLaw σ xa1).bind fun p1 =>
  if p1.2 = 0 then
    some (p1.1, (-1 : Int32))
  else
    (d_X10_isCompany p1.1 xa2).bind fun p2 =>
    if p2.2 = 0 then
      some (p2.1, (-1 : Int32))
    else
      if xa3 < 0 then
        some (p2.1, (-1 : Int32))
      else
        if (96 : Int32) < xa3 then
          some (p2.1, (-1 : Int32))
        else
          if xa4 < 0 then
            some (p2.1, (-1 : Int32))
          else
            if (96 : Int32) < xa4 then
              some (p2.1, (-1 : Int32))
            else
              ix xa1 6 fun j3 =>
              (d_X3_foresee p2.1 (0 + j3) (xa3 + xa4)).bind fun σ4 =>
              (d_X3_menOfMutiny σ4 xa2 xa3 xa4).bind fun p5 =>
              some (p5.1, p5.2)
theorem e_X10_mutiny (σ : zH) (xa1 : Int32) (xa2 : Int32) (xa3 : Int32) (xa4 : Int32) : d_X10_mutiny σ xa1 xa2 xa3 xa4 = zin cc_X10_mutiny (fun t => none) 0 krI b_X10_mutiny 0 σ [vR 10 0, vI xa1, vI xa2, vI xa3, vI xa4] [] := by
  unfold d_X10_mutiny
  refine Eq.symm ((zin_b (es := q_X10_mutiny_0) rfl).trans ?_)
  refine (t_X10_mutiny_0 _ _ _ _ _ _).trans ?_
  refine (x_callV rfl rfl rfl rfl).trans ((cl_X10_mutiny_X10_isLaw _ _ _).trans ((gr_X10_isLaw _ _ _).trans (pbd fun _ => ?_)))
  refine x_if.trans (pif_eq ?_ ?_)
  · refine (zrun_b (es := q_X10_mutiny_38) rfl rfl).trans ?_
    refine (t_X10_mutiny_38 _ _ _ _ _ _ _ _).trans ?_
    exact x_iret
  · refine (t_X10_mutiny_8 _ _ _ _ _ _).trans ?_
    refine (x_callV rfl rfl rfl rfl).trans ((cl_X10_mutiny_X10_isCompany _ _ _).trans ((gr_X10_isCompany _ _ _).trans (pbd fun _ => ?_)))
    refine x_if.trans (pif_eq ?_ ?_)
    · refine (zrun_b (es := q_X10_mutiny_38) rfl rfl).trans ?_
      refine (t_X10_mutiny_38 _ _ _ _ _ _ _ _).trans ?_
      exact x_iret
    · refine (t_X10_mutiny_16 _ _ _ _ _ _).trans ?_
      refine x_if.trans (pif_lt ?_ ?_)
      · refine (zrun_b (es := q_X10_mutiny_38) rfl rfl).trans ?_
        refine (t_X10_mutiny_38 _ _ _ _ _ _ _ _).trans ?_
        exact x_iret
      · refine (t_X10_mutiny_20 _ _ _ _ _ _ _).trans ?_
        refine x_icmp.trans (pif_gt ?_ ?_)
        · refine (zrun_b (es := q_X10_mutiny_38) rfl rfl).trans ?_
          refine (t_X10_mutiny_38 _ _ _ _ _ _ _ _).trans ?_
          exact x_iret
        · refine (t_X10_mutiny_26 _ _ _ _ _ _).trans ?_
          refine x_if.trans (pif_lt ?_ ?_)
          · refine (zrun_b (es := q_X10_mutiny_38) rfl rfl).trans ?_
            refine (t_X10_mutiny_38 _ _ _ _ _ _ _ _).trans ?_
            exact x_iret
          · refine (t_X10_mutiny_31 _ _ _ _ _ _ _).trans ?_
            refine x_icmp.trans (pif_le ?_ ?_)
            · refine (zrun_b (es := q_X10_mutiny_40) rfl rfl).trans ?_
              refine (t_X10_mutiny_40 _ _ _ _ _ _).trans ?_
              refine (x_aald (N := 6) rfl rfl rfl rfl).trans (pix fun _ => ?_)
              refine (t_X10_mutiny_50 _ _ _ _ _ _ _).trans ?_
              refine (x_callV rfl rfl rfl rfl).trans ((cl_X10_mutiny_X3_foresee _ _ _).trans ((gr_X3_foresee _ _ _ _).trans (pbd fun _ => ?_)))
              refine (t_X10_mutiny_57 _ _ _ _ _ _).trans ?_
              refine (x_callV rfl rfl rfl rfl).trans ((cl_X10_mutiny_X3_menOfMutiny _ _ _).trans ((gr_X3_menOfMutiny _ _ _ _ _).trans (pbd fun _ => ?_)))
              exact x_iret
            · refine (t_X10_mutiny_38 _ _ _ _ _ _ _ _).trans ?_
              exact x_iret
noncomputable def g_X10_mutiny {ρ : Type} (σ : zH) (av : List zAV) (q : zH → zAV → Option ρ) : Option ρ := match av with
  | [.inr (.inr (.inl (10, 0))), .inl xa1, .inl xa2, .inl xa3, .inl xa4] => (d_X10_mutiny σ xa1 xa2 xa3 xa4).bind fun p => q p.1 (vI p.2)
  | _ => none
theorem gr_X10_mutiny {ρ : Type} (σ : zH) (xa1 : Int32) (xa2 : Int32) (xa3 : Int32) (xa4 : Int32) (q : zH → zAV → Option ρ) : g_X10_mutiny σ [vR 10 0, vI xa1, vI xa2, vI xa3, vI xa4] q = (d_X10_mutiny σ xa1 xa2 xa3 xa4).bind fun p => q p.1 (vI p.2) := rfl
theorem c_X10_mutiny {ρ : Type} {X : zX} (hX : zHX X) {σ : zH} {av : List zAV} {q : zH → zAV → Option ρ} {r : ρ} (h : g_X10_mutiny σ av q = some r) (hv : ∀ a ∈ av, zval X a) : zcon X 113 σ av q r := by
  unfold g_X10_mutiny at h
  split at h
  · exact zcon_I (n := 113) (ml := 5) (rc := 0) (st := 0) (kd := 10) (np := 4) (by decide +kernel) (by decide) ⟨_, _, rfl, rfl⟩ (Nat.le_of_ble_eq_true rfl) hv h (fun y h1 => (zin_ok (hy_X10_mutiny hX) bk_X10_mutiny (fun t f hf => by
      cases hf) ((e_X10_mutiny _ _ _ _ _).symm.trans h1)))
  · cases h
/-! SleepWaves.crest(IIIII)I -/
def q_X10_crest_40 : List zEnt := zE 40 .ireturn 1 :: []
def q_X10_crest_39 : List zEnt := zEk 39 (.iconst (-1)) 1 (-1) :: q_X10_crest_40
def q_X10_crest_36 : List zEnt := zEa 36 (.if_icmp .le 5) 3 41 :: q_X10_crest_39
def q_X10_crest_32 : List zEnt := zE 32 (.iload 4) 2 :: zEk 34 (.bipush 96) 2 96 :: q_X10_crest_36
def q_X10_crest_29 : List zEnt := zEa 29 (.if_icmp .lt 10) 3 39 :: q_X10_crest_32
def q_X10_crest_26 : List zEnt := zE 26 (.iload 4) 2 :: zEk 28 (.iconst 1) 1 1 :: q_X10_crest_29
def q_X10_crest_23 : List zEnt := zEa 23 (.if_icmp .gt 16) 3 39 :: q_X10_crest_26
def q_X10_crest_20 : List zEnt := zE 20 (.iload_n 3) 1 :: zEk 21 (.bipush 48) 2 48 :: q_X10_crest_23
def q_X10_crest_17 : List zEnt := zEa 17 (.ifCond .lt 22) 3 39 :: q_X10_crest_20
def q_X10_crest_16 : List zEnt := zE 16 (.iload_n 3) 1 :: q_X10_crest_17
def q_X10_crest_13 : List zEnt := zEa 13 (.ifCond .eq 26) 3 39 :: q_X10_crest_16
def q_X10_crest_10 : List zEnt := zEc 10 (.invokevirtual 138) 3 123 2 72 0 :: q_X10_crest_13
def q_X10_crest_8 : List zEnt := zE 8 (.aload_n 0) 1 :: zE 9 (.iload_n 2) 1 :: q_X10_crest_10
def q_X10_crest_5 : List zEnt := zEa 5 (.ifCond .eq 34) 3 39 :: q_X10_crest_8
def q_X10_crest_2 : List zEnt := zEc 2 (.invokevirtual 122) 3 122 2 50 0 :: q_X10_crest_5
def q_X10_crest_0 : List zEnt := zE 0 (.aload_n 0) 1 :: zE 1 (.iload_n 1) 1 :: q_X10_crest_2
def q_X10_crest_53 : List zEnt := zE 53 .ireturn 1 :: []
def q_X10_crest_52 : List zEnt := zEk 52 (.iconst (-1)) 1 (-1) :: q_X10_crest_53
def q_X10_crest_49 : List zEnt := zEa 49 (.if_icmp .le 5) 3 54 :: q_X10_crest_52
def q_X10_crest_46 : List zEnt := zE 46 (.iload 5) 2 :: zEk 48 (.iconst 1) 1 1 :: q_X10_crest_49
def q_X10_crest_43 : List zEnt := zEa 43 (.ifCond .lt 9) 3 52 :: q_X10_crest_46
def q_X10_crest_41 : List zEnt := zE 41 (.iload 5) 2 :: q_X10_crest_43
def q_X10_crest_73 : List zEnt := zEk 73 (.iconst (-1)) 1 (-1) :: zE 74 (.istore 6) 2 :: zEk 76 (.iconst (-1)) 1 (-1) :: zE 77 (.istore 7) 2 :: zEk 79 (.iconst 0) 1 0 :: zE 80 (.istore 8) 2 :: [zE 82 .nop 0]
def q_X10_crest_70 : List zEnt := zEc 70 (.invokevirtual 261) 3 25 3 99 1 :: q_X10_crest_73
def q_X10_crest_64 : List zEnt := zE 64 (.iload 4) 2 :: zEk 66 (.iconst 1) 1 1 :: zE 67 .isub 1 :: zE 68 (.iload_n 3) 1 :: zE 69 .iadd 1 :: q_X10_crest_70
def q_X10_crest_63 : List zEnt := zE 63 .aaload 1 :: q_X10_crest_64
def q_X10_crest_54 : List zEnt := zE 54 (.aload_n 0) 1 :: zEf 55 (.getfield 89) 3 10 12 148 (2, 3, 0) :: zE 58 (.aload_n 0) 1 :: zEf 59 (.getfield 46) 3 10 4 140 (2, 38, 0) :: zE 62 (.iload_n 1) 1 :: q_X10_crest_63
def q_X10_crest_120 : List zEnt := zEa 120 (.goto (-38)) 3 82 :: []
def q_X10_crest_117 : List zEnt := zEk 117 (.iinc 8 1) 3 1 :: q_X10_crest_120
def q_X10_crest_109 : List zEnt := zE 109 (.iload 9) 2 :: zE 111 (.istore 6) 2 :: zE 113 (.iload 8) 2 :: zE 115 (.istore 7) 2 :: q_X10_crest_117
def q_X10_crest_106 : List zEnt := zEa 106 (.if_icmp .le 11) 3 117 :: q_X10_crest_109
def q_X10_crest_100 : List zEnt := zE 100 (.istore 9) 2 :: zE 102 (.iload 9) 2 :: zE 104 (.iload 6) 2 :: q_X10_crest_106
def q_X10_crest_97 : List zEnt := zEc 97 (.invokevirtual 264) 3 26 4 103 0 :: q_X10_crest_100
def q_X10_crest_89 : List zEnt := zE 89 (.aload_n 0) 1 :: zEf 90 (.getfield 89) 3 10 12 148 (2, 3, 0) :: zE 93 (.iload_n 2) 1 :: zE 94 (.iload 8) 2 :: zE 96 (.iload_n 3) 1 :: q_X10_crest_97
def q_X10_crest_86 : List zEnt := zEa 86 (.if_icmp .ge 37) 3 123 :: q_X10_crest_89
def q_X10_crest_82 : List zEnt := zE 82 (.iload 8) 2 :: zE 84 (.iload 4) 2 :: q_X10_crest_86
def q_X10_crest_130 : List zEnt := zEa 130 (.goto 5) 3 135 :: []
def q_X10_crest_128 : List zEnt := zE 128 (.iload 7) 2 :: q_X10_crest_130
def q_X10_crest_125 : List zEnt := zEa 125 (.ifCond .ne 8) 3 133 :: q_X10_crest_128
def q_X10_crest_123 : List zEnt := zE 123 (.iload 5) 2 :: q_X10_crest_125
def q_X10_crest_135 : List zEnt := zE 135 .ireturn 1 :: []
def q_X10_crest_133 : List zEnt := zE 133 (.iload 6) 2 :: q_X10_crest_135
def b_X10_crest : List (Nat × List zEnt) := [(0, q_X10_crest_0), (39, q_X10_crest_39), (41, q_X10_crest_41), (52, q_X10_crest_52), (54, q_X10_crest_54), (82, q_X10_crest_82), (117, q_X10_crest_117), (123, q_X10_crest_123), (133, q_X10_crest_133), (135, q_X10_crest_135)]
theorem bk_X10_crest : zchB 114 b_X10_crest = true := by decide +kernel
noncomputable def cc_X10_crest {ρ : Type} : Nat → zH → List zAV → (zH → zAV → Option ρ) → Option ρ := fun n σ av q => if n = 122 then g_X10_isLaw σ av q else if n = 123 then g_X10_isCompany σ av q else if n = 25 then g_X3_foresee σ av q else if n = 26 then g_X3_menOfMutiny σ av q else none
theorem cs_X10_crest {ρ : Type} {X : zX} (hX : zHX X) : zCS X (cc_X10_crest (ρ := ρ)) := by
  intro n σ av q r h hv
  unfold cc_X10_crest at h
  by_cases e_X10_isLaw : n = 122
  · rw [if_pos e_X10_isLaw] at h
    subst e_X10_isLaw
    exact c_X10_isLaw hX h hv
  rw [if_neg e_X10_isLaw] at h
  by_cases e_X10_isCompany : n = 123
  · rw [if_pos e_X10_isCompany] at h
    subst e_X10_isCompany
    exact c_X10_isCompany hX h hv
  rw [if_neg e_X10_isCompany] at h
  by_cases e_X3_foresee : n = 25
  · rw [if_pos e_X3_foresee] at h
    subst e_X3_foresee
    exact c_X3_foresee hX h hv
  rw [if_neg e_X3_foresee] at h
  by_cases e_X3_menOfMutiny : n = 26
  · rw [if_pos e_X3_menOfMutiny] at h
    subst e_X3_menOfMutiny
    exact c_X3_menOfMutiny hX h hv
  rw [if_neg e_X3_menOfMutiny] at h
  cases h
theorem cl_X10_crest_X10_isLaw {ρ : Type} (σ : zH) (av : List zAV) (q : zH → zAV → Option ρ) : cc_X10_crest 122 σ av q = g_X10_isLaw σ av q := rfl
theorem cl_X10_crest_X10_isCompany {ρ : Type} (σ : zH) (av : List zAV) (q : zH → zAV → Option ρ) : cc_X10_crest 123 σ av q = g_X10_isCompany σ av q := rfl
theorem cl_X10_crest_X3_foresee {ρ : Type} (σ : zH) (av : List zAV) (q : zH → zAV → Option ρ) : cc_X10_crest 25 σ av q = g_X3_foresee σ av q := rfl
theorem cl_X10_crest_X3_menOfMutiny {ρ : Type} (σ : zH) (av : List zAV) (q : zH → zAV → Option ρ) : cc_X10_crest 26 σ av q = g_X3_menOfMutiny σ av q := rfl
theorem hy_X10_crest {ρ : Type} {X : zX} (hX : zHX X) : zHY X 114 (cc_X10_crest (ρ := ρ)) := zHX.hY hX (cs_X10_crest hX) (zmok_all 114 (by decide))
def gl_X10_crest_82 {ρ : Type} (f : zH → Int32 → Int32 → Int32 → Int32 → Int32 → Int32 → Int32 → Option ρ) (σ : zH) (L st : List zAV) : Option ρ := match L, st with
  | [.inr (.inr (.inl (10, 0))), _, .inl x2, .inl x3, .inl x4, .inl x5, .inl x6, .inl x7, .inl x8, _], [] => f σ x2 x3 x4 x5 x6 x7 x8
  | _, _ => none
def gl_X10_crest_123 {ρ : Type} (f : zH → Int32 → Int32 → Int32 → Option ρ) (σ : zH) (L st : List zAV) : Option ρ := match L, st with
  | [_, _, _, _, _, .inl x5, .inl x6, .inl x7, _, _], [] => f σ x5 x6 x7
  | _, _ => none
theorem glr_X10_crest_82 {ρ : Type} (f : zH → Int32 → Int32 → Int32 → Int32 → Int32 → Int32 → Int32 → Option ρ) (σ : zH) (x2 : Int32) (x3 : Int32) (x4 : Int32) (x5 : Int32) (x6 : Int32) (x7 : Int32) (x8 : Int32) (y1 : zAV) (y9 : zAV) : gl_X10_crest_82 f σ [vR 10 0, y1, vI x2, vI x3, vI x4, vI x5, vI x6, vI x7, vI x8, y9] [] = f σ x2 x3 x4 x5 x6 x7 x8 := rfl
theorem glr_X10_crest_123 {ρ : Type} (f : zH → Int32 → Int32 → Int32 → Option ρ) (σ : zH) (x5 : Int32) (x6 : Int32) (x7 : Int32) (y0 : zAV) (y1 : zAV) (y2 : zAV) (y3 : zAV) (y4 : zAV) (y8 : zAV) (y9 : zAV) : gl_X10_crest_123 f σ [y0, y1, y2, y3, y4, vI x5, vI x6, vI x7, y8, y9] [] = f σ x5 x6 x7 := rfl
theorem t_X10_crest_0 {G : Nat → zH → List zAV → List zAV → Option (zH × Int32)} (es : List zEnt) (σ : zH) (x1 : Int32) (x2 : Int32) (x3 : Int32) (x4 : Int32) (x5 : Int32) (y6 : zAV) (y7 : zAV) (y8 : zAV) (y9 : zAV)  : zev cc_X10_crest G 0 krI (zE 0 (.aload_n 0) 1 :: zE 1 (.iload_n 1) 1 :: es) σ [vR 10 0, vI x1, vI x2, vI x3, vI x4, vI x5, y6, y7, y8, y9] [] = zev cc_X10_crest G 0 krI es σ [vR 10 0, vI x1, vI x2, vI x3, vI x4, vI x5, y6, y7, y8, y9] [vI x1, vR 10 0] := rfl
theorem t_X10_crest_8 {G : Nat → zH → List zAV → List zAV → Option (zH × Int32)} (es : List zEnt) (σ : zH) (x1 : Int32) (x2 : Int32) (x3 : Int32) (x4 : Int32) (x5 : Int32) (y6 : zAV) (y7 : zAV) (y8 : zAV) (y9 : zAV)  : zev cc_X10_crest G 0 krI (zE 8 (.aload_n 0) 1 :: zE 9 (.iload_n 2) 1 :: es) σ [vR 10 0, vI x1, vI x2, vI x3, vI x4, vI x5, y6, y7, y8, y9] [] = zev cc_X10_crest G 0 krI es σ [vR 10 0, vI x1, vI x2, vI x3, vI x4, vI x5, y6, y7, y8, y9] [vI x2, vR 10 0] := rfl
theorem t_X10_crest_16 {G : Nat → zH → List zAV → List zAV → Option (zH × Int32)} (es : List zEnt) (σ : zH) (x1 : Int32) (x2 : Int32) (x3 : Int32) (x4 : Int32) (x5 : Int32) (y6 : zAV) (y7 : zAV) (y8 : zAV) (y9 : zAV)  : zev cc_X10_crest G 0 krI (zE 16 (.iload_n 3) 1 :: es) σ [vR 10 0, vI x1, vI x2, vI x3, vI x4, vI x5, y6, y7, y8, y9] [] = zev cc_X10_crest G 0 krI es σ [vR 10 0, vI x1, vI x2, vI x3, vI x4, vI x5, y6, y7, y8, y9] [vI x3] := rfl
theorem t_X10_crest_20 {G : Nat → zH → List zAV → List zAV → Option (zH × Int32)} (es : List zEnt) (σ : zH) (x1 : Int32) (x2 : Int32) (x3 : Int32) (x4 : Int32) (x5 : Int32) (y6 : zAV) (y7 : zAV) (y8 : zAV) (y9 : zAV) (w21 : Int32) : zev cc_X10_crest G 0 krI (zE 20 (.iload_n 3) 1 :: zEk 21 (.bipush 48) 2 w21 :: es) σ [vR 10 0, vI x1, vI x2, vI x3, vI x4, vI x5, y6, y7, y8, y9] [] = zev cc_X10_crest G 0 krI es σ [vR 10 0, vI x1, vI x2, vI x3, vI x4, vI x5, y6, y7, y8, y9] [vI w21, vI x3] := rfl
theorem t_X10_crest_26 {G : Nat → zH → List zAV → List zAV → Option (zH × Int32)} (es : List zEnt) (σ : zH) (x1 : Int32) (x2 : Int32) (x3 : Int32) (x4 : Int32) (x5 : Int32) (y6 : zAV) (y7 : zAV) (y8 : zAV) (y9 : zAV) (w28 : Int32) : zev cc_X10_crest G 0 krI (zE 26 (.iload 4) 2 :: zEk 28 (.iconst 1) 1 w28 :: es) σ [vR 10 0, vI x1, vI x2, vI x3, vI x4, vI x5, y6, y7, y8, y9] [] = zev cc_X10_crest G 0 krI es σ [vR 10 0, vI x1, vI x2, vI x3, vI x4, vI x5, y6, y7, y8, y9] [vI w28, vI x4] := rfl
theorem t_X10_crest_32 {G : Nat → zH → List zAV → List zAV → Option (zH × Int32)} (es : List zEnt) (σ : zH) (x1 : Int32) (x2 : Int32) (x3 : Int32) (x4 : Int32) (x5 : Int32) (y6 : zAV) (y7 : zAV) (y8 : zAV) (y9 : zAV) (w34 : Int32) : zev cc_X10_crest G 0 krI (zE 32 (.iload 4) 2 :: zEk 34 (.bipush 96) 2 w34 :: es) σ [vR 10 0, vI x1, vI x2, vI x3, vI x4, vI x5, y6, y7, y8, y9] [] = zev cc_X10_crest G 0 krI es σ [vR 10 0, vI x1, vI x2, vI x3, vI x4, vI x5, y6, y7, y8, y9] [vI w34, vI x4] := rfl
theorem t_X10_crest_39 {G : Nat → zH → List zAV → List zAV → Option (zH × Int32)} (es : List zEnt) (σ : zH)  (y0 : zAV) (y1 : zAV) (y2 : zAV) (y3 : zAV) (y4 : zAV) (y5 : zAV) (y6 : zAV) (y7 : zAV) (y8 : zAV) (y9 : zAV) (w39 : Int32) : zev cc_X10_crest G 0 krI (zEk 39 (.iconst (-1)) 1 w39 :: es) σ [y0, y1, y2, y3, y4, y5, y6, y7, y8, y9] [] = zev cc_X10_crest G 0 krI es σ [y0, y1, y2, y3, y4, y5, y6, y7, y8, y9] [vI w39] := rfl
theorem t_X10_crest_41 {G : Nat → zH → List zAV → List zAV → Option (zH × Int32)} (es : List zEnt) (σ : zH) (x1 : Int32) (x2 : Int32) (x3 : Int32) (x4 : Int32) (x5 : Int32) (y6 : zAV) (y7 : zAV) (y8 : zAV) (y9 : zAV)  : zev cc_X10_crest G 0 krI (zE 41 (.iload 5) 2 :: es) σ [vR 10 0, vI x1, vI x2, vI x3, vI x4, vI x5, y6, y7, y8, y9] [] = zev cc_X10_crest G 0 krI es σ [vR 10 0, vI x1, vI x2, vI x3, vI x4, vI x5, y6, y7, y8, y9] [vI x5] := rfl
theorem t_X10_crest_46 {G : Nat → zH → List zAV → List zAV → Option (zH × Int32)} (es : List zEnt) (σ : zH) (x1 : Int32) (x2 : Int32) (x3 : Int32) (x4 : Int32) (x5 : Int32) (y6 : zAV) (y7 : zAV) (y8 : zAV) (y9 : zAV) (w48 : Int32) : zev cc_X10_crest G 0 krI (zE 46 (.iload 5) 2 :: zEk 48 (.iconst 1) 1 w48 :: es) σ [vR 10 0, vI x1, vI x2, vI x3, vI x4, vI x5, y6, y7, y8, y9] [] = zev cc_X10_crest G 0 krI es σ [vR 10 0, vI x1, vI x2, vI x3, vI x4, vI x5, y6, y7, y8, y9] [vI w48, vI x5] := rfl
theorem t_X10_crest_52 {G : Nat → zH → List zAV → List zAV → Option (zH × Int32)} (es : List zEnt) (σ : zH)  (y0 : zAV) (y1 : zAV) (y2 : zAV) (y3 : zAV) (y4 : zAV) (y5 : zAV) (y6 : zAV) (y7 : zAV) (y8 : zAV) (y9 : zAV) (w52 : Int32) : zev cc_X10_crest G 0 krI (zEk 52 (.iconst (-1)) 1 w52 :: es) σ [y0, y1, y2, y3, y4, y5, y6, y7, y8, y9] [] = zev cc_X10_crest G 0 krI es σ [y0, y1, y2, y3, y4, y5, y6, y7, y8, y9] [vI w52] := rfl
theorem t_X10_crest_54 {G : Nat → zH → List zAV → List zAV → Option (zH × Int32)} (es : List zEnt) (σ : zH) (x1 : Int32) (x2 : Int32) (x3 : Int32) (x4 : Int32) (x5 : Int32) (y6 : zAV) (y7 : zAV) (y8 : zAV) (y9 : zAV)  : zev cc_X10_crest G 0 krI (zE 54 (.aload_n 0) 1 :: zEf 55 (.getfield 89) 3 10 12 148 (2, 3, 0) :: zE 58 (.aload_n 0) 1 :: zEf 59 (.getfield 46) 3 10 4 140 (2, 38, 0) :: zE 62 (.iload_n 1) 1 :: es) σ [vR 10 0, vI x1, vI x2, vI x3, vI x4, vI x5, y6, y7, y8, y9] [] = zev cc_X10_crest G 0 krI es σ [vR 10 0, vI x1, vI x2, vI x3, vI x4, vI x5, y6, y7, y8, y9] [vI x1, vR 38 0, vR 3 0] := rfl
theorem t_X10_crest_64 {G : Nat → zH → List zAV → List zAV → Option (zH × Int32)} (es : List zEnt) (σ : zH) (x2 : Int32) (x3 : Int32) (x4 : Int32) (x5 : Int32) (is1 : Nat) (y1 : zAV) (y6 : zAV) (y7 : zAV) (y8 : zAV) (y9 : zAV) (w66 : Int32) : zev cc_X10_crest G 0 krI (zE 64 (.iload 4) 2 :: zEk 66 (.iconst 1) 1 w66 :: zE 67 .isub 1 :: zE 68 (.iload_n 3) 1 :: zE 69 .iadd 1 :: es) σ [vR 10 0, y1, vI x2, vI x3, vI x4, vI x5, y6, y7, y8, y9] [vR 4 is1, vR 3 0] = zev cc_X10_crest G 0 krI es σ [vR 10 0, y1, vI x2, vI x3, vI x4, vI x5, y6, y7, y8, y9] [vI ((x4 - w66) + x3), vR 4 is1, vR 3 0] := rfl
theorem t_X10_crest_73 {G : Nat → zH → List zAV → List zAV → Option (zH × Int32)} (es : List zEnt) (σ : zH) (x2 : Int32) (x3 : Int32) (x4 : Int32) (x5 : Int32) (y1 : zAV) (y6 : zAV) (y7 : zAV) (y8 : zAV) (y9 : zAV) (w73 : Int32) (w76 : Int32) (w79 : Int32) : zev cc_X10_crest G 0 krI (zEk 73 (.iconst (-1)) 1 w73 :: zE 74 (.istore 6) 2 :: zEk 76 (.iconst (-1)) 1 w76 :: zE 77 (.istore 7) 2 :: zEk 79 (.iconst 0) 1 w79 :: zE 80 (.istore 8) 2 :: es) σ [vR 10 0, y1, vI x2, vI x3, vI x4, vI x5, y6, y7, y8, y9] [] = zev cc_X10_crest G 0 krI es σ [vR 10 0, y1, vI x2, vI x3, vI x4, vI x5, vI w73, vI w76, vI w79, y9] [] := rfl
theorem t_X10_crest_82 {G : Nat → zH → List zAV → List zAV → Option (zH × Int32)} (es : List zEnt) (σ : zH) (x2 : Int32) (x3 : Int32) (x4 : Int32) (x5 : Int32) (x6 : Int32) (x7 : Int32) (x8 : Int32) (y1 : zAV) (y9 : zAV)  : zev cc_X10_crest G 0 krI (zE 82 (.iload 8) 2 :: zE 84 (.iload 4) 2 :: es) σ [vR 10 0, y1, vI x2, vI x3, vI x4, vI x5, vI x6, vI x7, vI x8, y9] [] = zev cc_X10_crest G 0 krI es σ [vR 10 0, y1, vI x2, vI x3, vI x4, vI x5, vI x6, vI x7, vI x8, y9] [vI x4, vI x8] := rfl
theorem t_X10_crest_89 {G : Nat → zH → List zAV → List zAV → Option (zH × Int32)} (es : List zEnt) (σ : zH) (x2 : Int32) (x3 : Int32) (x4 : Int32) (x5 : Int32) (x6 : Int32) (x7 : Int32) (x8 : Int32) (y1 : zAV) (y9 : zAV)  : zev cc_X10_crest G 0 krI (zE 89 (.aload_n 0) 1 :: zEf 90 (.getfield 89) 3 10 12 148 (2, 3, 0) :: zE 93 (.iload_n 2) 1 :: zE 94 (.iload 8) 2 :: zE 96 (.iload_n 3) 1 :: es) σ [vR 10 0, y1, vI x2, vI x3, vI x4, vI x5, vI x6, vI x7, vI x8, y9] [] = zev cc_X10_crest G 0 krI es σ [vR 10 0, y1, vI x2, vI x3, vI x4, vI x5, vI x6, vI x7, vI x8, y9] [vI x3, vI x8, vI x2, vR 3 0] := rfl
theorem t_X10_crest_100 {G : Nat → zH → List zAV → List zAV → Option (zH × Int32)} (es : List zEnt) (σ : zH) (x2 : Int32) (x3 : Int32) (x4 : Int32) (x5 : Int32) (x6 : Int32) (x7 : Int32) (x8 : Int32) (xs0 : Int32) (y1 : zAV) (y9 : zAV)  : zev cc_X10_crest G 0 krI (zE 100 (.istore 9) 2 :: zE 102 (.iload 9) 2 :: zE 104 (.iload 6) 2 :: es) σ [vR 10 0, y1, vI x2, vI x3, vI x4, vI x5, vI x6, vI x7, vI x8, y9] [vI xs0] = zev cc_X10_crest G 0 krI es σ [vR 10 0, y1, vI x2, vI x3, vI x4, vI x5, vI x6, vI x7, vI x8, vI xs0] [vI x6, vI xs0] := rfl
theorem t_X10_crest_109 {G : Nat → zH → List zAV → List zAV → Option (zH × Int32)} (es : List zEnt) (σ : zH) (x2 : Int32) (x3 : Int32) (x4 : Int32) (x5 : Int32) (x8 : Int32) (x9 : Int32) (y1 : zAV) (y6 : zAV) (y7 : zAV) (w117 : Int32) : zev cc_X10_crest G 0 krI (zE 109 (.iload 9) 2 :: zE 111 (.istore 6) 2 :: zE 113 (.iload 8) 2 :: zE 115 (.istore 7) 2 :: zEk 117 (.iinc 8 1) 3 w117 :: es) σ [vR 10 0, y1, vI x2, vI x3, vI x4, vI x5, y6, y7, vI x8, vI x9] [] = zev cc_X10_crest G 0 krI es σ [vR 10 0, y1, vI x2, vI x3, vI x4, vI x5, vI x9, vI x8, vI (x8 + w117), vI x9] [] := rfl
theorem t_X10_crest_117 {G : Nat → zH → List zAV → List zAV → Option (zH × Int32)} (es : List zEnt) (σ : zH) (x2 : Int32) (x3 : Int32) (x4 : Int32) (x5 : Int32) (x6 : Int32) (x7 : Int32) (x8 : Int32) (y1 : zAV) (y9 : zAV) (w117 : Int32) : zev cc_X10_crest G 0 krI (zEk 117 (.iinc 8 1) 3 w117 :: es) σ [vR 10 0, y1, vI x2, vI x3, vI x4, vI x5, vI x6, vI x7, vI x8, y9] [] = zev cc_X10_crest G 0 krI es σ [vR 10 0, y1, vI x2, vI x3, vI x4, vI x5, vI x6, vI x7, vI (x8 + w117), y9] [] := rfl
theorem t_X10_crest_123 {G : Nat → zH → List zAV → List zAV → Option (zH × Int32)} (es : List zEnt) (σ : zH) (x5 : Int32) (x6 : Int32) (x7 : Int32) (y0 : zAV) (y1 : zAV) (y2 : zAV) (y3 : zAV) (y4 : zAV) (y8 : zAV) (y9 : zAV)  : zev cc_X10_crest G 0 krI (zE 123 (.iload 5) 2 :: es) σ [y0, y1, y2, y3, y4, vI x5, vI x6, vI x7, y8, y9] [] = zev cc_X10_crest G 0 krI es σ [y0, y1, y2, y3, y4, vI x5, vI x6, vI x7, y8, y9] [vI x5] := rfl
theorem t_X10_crest_128 {G : Nat → zH → List zAV → List zAV → Option (zH × Int32)} (es : List zEnt) (σ : zH) (x7 : Int32) (y0 : zAV) (y1 : zAV) (y2 : zAV) (y3 : zAV) (y4 : zAV) (y5 : zAV) (y6 : zAV) (y8 : zAV) (y9 : zAV)  : zev cc_X10_crest G 0 krI (zE 128 (.iload 7) 2 :: es) σ [y0, y1, y2, y3, y4, y5, y6, vI x7, y8, y9] [] = zev cc_X10_crest G 0 krI es σ [y0, y1, y2, y3, y4, y5, y6, vI x7, y8, y9] [vI x7] := rfl
theorem t_X10_crest_133 {G : Nat → zH → List zAV → List zAV → Option (zH × Int32)} (es : List zEnt) (σ : zH) (x6 : Int32) (y0 : zAV) (y1 : zAV) (y2 : zAV) (y3 : zAV) (y4 : zAV) (y5 : zAV) (y7 : zAV) (y8 : zAV) (y9 : zAV)  : zev cc_X10_crest G 0 krI (zE 133 (.iload 6) 2 :: es) σ [y0, y1, y2, y3, y4, y5, vI x6, y7, y8, y9] [] = zev cc_X10_crest G 0 krI es σ [y0, y1, y2, y3, y4, y5, vI x6, y7, y8, y9] [vI x6] := rfl
noncomputable def k_X10_crest_82 (c123 : zH → Int32 → Int32 → Int32 → Option (zH × Int32)) : Nat → zH → Int32 → Int32 → Int32 → Int32 → Int32 → Int32 → Int32 → Option (zH × Int32)
  | 0, _, _, _, _, _, _, _, _ => none
  | n + 1, σ, x2, x3, x4, x5, x6, x7, x8 =>
    if x8 < x4 then
      (d_X3_menOfMutiny σ x2 x8 x3).bind fun p1 =>
      if x6 < p1.2 then
        (k_X10_crest_82 c123 n) p1.1 x2 x3 x4 x5 p1.2 x8 (x8 + (1 : Int32))
      else
        (k_X10_crest_82 c123 n) p1.1 x2 x3 x4 x5 x6 x7 (x8 + (1 : Int32))
    else
      c123 σ x5 x6 x7
theorem e_X10_crest_82 (c123 : zH → Int32 → Int32 → Int32 → Option (zH × Int32)) (n : Nat) (σ : zH) (x2 : Int32) (x3 : Int32) (x4 : Int32) (x5 : Int32) (x6 : Int32) (x7 : Int32) (x8 : Int32) (y1 : zAV) (y9 : zAV) : k_X10_crest_82 c123 (n + 1) σ x2 x3 x4 x5 x6 x7 x8 = zin cc_X10_crest (fun t => if t = 82 then some (gl_X10_crest_82 (k_X10_crest_82 c123 n)) else if t = 123 then some (gl_X10_crest_123 c123) else none) 0 krI b_X10_crest 82 σ [vR 10 0, y1, vI x2, vI x3, vI x4, vI x5, vI x6, vI x7, vI x8, y9] [] := by
  rw [k_X10_crest_82]
  refine Eq.symm ((zin_b (es := q_X10_crest_82) rfl).trans ?_)
  refine (t_X10_crest_82 _ _ _ _ _ _ _ _ _ _ _).trans ?_
  refine x_icmp.trans (pif_ge ?_ ?_)
  · exact (zrun_c rfl).trans (glr_X10_crest_123 _ _ _ _ _ _ _ _ _ _ _ _)
  · refine (t_X10_crest_89 _ _ _ _ _ _ _ _ _ _ _).trans ?_
    refine (x_callV rfl rfl rfl rfl).trans ((cl_X10_crest_X3_menOfMutiny _ _ _).trans ((gr_X3_menOfMutiny _ _ _ _ _).trans (pbd fun _ => ?_)))
    refine (t_X10_crest_100 _ _ _ _ _ _ _ _ _ _ _ _).trans ?_
    refine x_icmp.trans (pif_le ?_ ?_)
    · refine (zrun_b (es := q_X10_crest_117) rfl rfl).trans ?_
      refine (t_X10_crest_117 _ _ _ _ _ _ _ _ _ _ _ _).trans ?_
      refine x_goto.trans ?_
      exact (zrun_c rfl).trans (glr_X10_crest_82 _ _ _ _ _ _ _ _ _ _ _)
    · refine (t_X10_crest_109 _ _ _ _ _ _ _ _ _ _ _ _).trans ?_
      refine x_goto.trans ?_
      exact (zrun_c rfl).trans (glr_X10_crest_82 _ _ _ _ _ _ _ _ _ _ _)
theorem s_X10_crest_82 {X : zX} (hX : zHX X) {c123 : zH → Int32 → Int32 → Int32 → Option (zH × Int32)} (h123 : ∀ σ L st r, gl_X10_crest_123 c123 σ L st = some r → zGW X 114 krI 123 σ L st r) : ∀ n σ L st r, gl_X10_crest_82 (k_X10_crest_82 c123 n) σ L st = some r → zGW X 114 krI 82 σ L st r := by
  intro n
  induction n with
  | zero =>
    intro σ L st r h
    unfold gl_X10_crest_82 at h
    split at h <;> cases h
  | succ n ih =>
    intro σ L st r h
    unfold gl_X10_crest_82 at h
    split at h
    · exact zin_ok (hy_X10_crest hX) bk_X10_crest (fun t f hf => by
      by_cases e82 : t = 82
      · rw [if_pos e82] at hf; subst e82; cases hf; exact ih
      rw [if_neg e82] at hf
      by_cases e123 : t = 123
      · rw [if_pos e123] at hf; subst e123; cases hf; exact h123
      rw [if_neg e123] at hf
      cases hf) ((e_X10_crest_82 _ _ _ _ _ _ _ _ _ _ _ _).symm.trans h)
    · cases h
noncomputable def j_X10_crest_123  (σ : zH) (x5 : Int32) (x6 : Int32) (x7 : Int32) : Option (zH × Int32) :=
  if x5 = 0 then
    some (σ, x7)
  else
    some (σ, x6)
theorem e_X10_crest_123  (σ : zH) (x5 : Int32) (x6 : Int32) (x7 : Int32) (y0 : zAV) (y1 : zAV) (y2 : zAV) (y3 : zAV) (y4 : zAV) (y8 : zAV) (y9 : zAV) : j_X10_crest_123 σ x5 x6 x7 = zin cc_X10_crest (fun t => none) 0 krI b_X10_crest 123 σ [y0, y1, y2, y3, y4, vI x5, vI x6, vI x7, y8, y9] [] := by
  unfold j_X10_crest_123
  refine Eq.symm ((zin_b (es := q_X10_crest_123) rfl).trans ?_)
  refine (t_X10_crest_123 _ _ _ _ _ _ _ _ _ _ _ _).trans ?_
  refine x_if.trans (pif_ne ?_ ?_)
  · refine (zrun_b (es := q_X10_crest_133) rfl rfl).trans ?_
    refine (t_X10_crest_133 _ _ _ _ _ _ _ _ _ _ _ _).trans ?_
    exact x_iret
  · refine (t_X10_crest_128 _ _ _ _ _ _ _ _ _ _ _ _).trans ?_
    refine x_goto.trans ?_
    refine (zrun_b (es := q_X10_crest_135) rfl rfl).trans ?_
    exact x_iret
theorem s_X10_crest_123 {X : zX} (hX : zHX X)   : ∀ σ L st r, gl_X10_crest_123 j_X10_crest_123 σ L st = some r → zGW X 114 krI 123 σ L st r := by
  intro σ L st r h
  unfold gl_X10_crest_123 at h
  split at h
  · exact zin_ok (hy_X10_crest hX) bk_X10_crest (fun t f hf => by
    cases hf) ((e_X10_crest_123 _ _ _ _ _ _ _ _ _ _ _).symm.trans h)
  · cases h
noncomputable def d_X10_crest (σ : zH) (xa1 : Int32) (xa2 : Int32) (xa3 : Int32) (xa4 : Int32) (xa5 : Int32) : Option (zH × Int32) :=
  (d_X10_isLaw σ xa1).bind fun p1 =>
  if p1.2 = 0 then
    some (p1.1, (-1 : Int32))
  else
    (d_X10_isCompany p1.1 xa2).bind fun p2 =>
    if p2.2 = 0 then
      some (p2.1, (-1 : Int32))
    else
      if xa3 < 0 then
        some (p2.1, (-1 : Int32))
      else
        if (48 : Int32) < xa3 then
          some (p2.1, (-1 : Int32))
        else
          if xa4 < (1 : Int32) then
            some (p2.1, (-1 : Int32))
          else
            if (96 : Int32) < xa4 then
              some (p2.1, (-1 : Int32))
            else
              if xa5 < 0 then
                some (p2.1, (-1 : Int32))
              else
                if (1 : Int32) < xa5 then
                  some (p2.1, (-1 : Int32))
                else
                  ix xa1 6 fun j3 =>
                  (d_X3_foresee p2.1 (0 + j3) ((xa4 - (1 : Int32)) + xa3)).bind fun σ4 =>
                  (k_X10_crest_82 j_X10_crest_123 zN) σ4 xa2 xa3 xa4 xa5 (-1 : Int32) (-1 : Int32) (0 : Int32)
theorem e_X10_crest (σ : zH) (xa1 : Int32) (xa2 : Int32) (xa3 : Int32) (xa4 : Int32) (xa5 : Int32) : d_X10_crest σ xa1 xa2 xa3 xa4 xa5 = zin cc_X10_crest (fun t => if t = 82 then some (gl_X10_crest_82 (k_X10_crest_82 j_X10_crest_123 zN)) else none) 0 krI b_X10_crest 0 σ [vR 10 0, vI xa1, vI xa2, vI xa3, vI xa4, vI xa5, vU, vU, vU, vU] [] := by
  unfold d_X10_crest
  refine Eq.symm ((zin_b (es := q_X10_crest_0) rfl).trans ?_)
  refine (t_X10_crest_0 _ _ _ _ _ _ _ _ _ _ _).trans ?_
  refine (x_callV rfl rfl rfl rfl).trans ((cl_X10_crest_X10_isLaw _ _ _).trans ((gr_X10_isLaw _ _ _).trans (pbd fun _ => ?_)))
  refine x_if.trans (pif_eq ?_ ?_)
  · refine (zrun_b (es := q_X10_crest_39) rfl rfl).trans ?_
    refine (t_X10_crest_39 _ _ _ _ _ _ _ _ _ _ _ _ _).trans ?_
    exact x_iret
  · refine (t_X10_crest_8 _ _ _ _ _ _ _ _ _ _ _).trans ?_
    refine (x_callV rfl rfl rfl rfl).trans ((cl_X10_crest_X10_isCompany _ _ _).trans ((gr_X10_isCompany _ _ _).trans (pbd fun _ => ?_)))
    refine x_if.trans (pif_eq ?_ ?_)
    · refine (zrun_b (es := q_X10_crest_39) rfl rfl).trans ?_
      refine (t_X10_crest_39 _ _ _ _ _ _ _ _ _ _ _ _ _).trans ?_
      exact x_iret
    · refine (t_X10_crest_16 _ _ _ _ _ _ _ _ _ _ _).trans ?_
      refine x_if.trans (pif_lt ?_ ?_)
      · refine (zrun_b (es := q_X10_crest_39) rfl rfl).trans ?_
        refine (t_X10_crest_39 _ _ _ _ _ _ _ _ _ _ _ _ _).trans ?_
        exact x_iret
      · refine (t_X10_crest_20 _ _ _ _ _ _ _ _ _ _ _ _).trans ?_
        refine x_icmp.trans (pif_gt ?_ ?_)
        · refine (zrun_b (es := q_X10_crest_39) rfl rfl).trans ?_
          refine (t_X10_crest_39 _ _ _ _ _ _ _ _ _ _ _ _ _).trans ?_
          exact x_iret
        · refine (t_X10_crest_26 _ _ _ _ _ _ _ _ _ _ _ _).trans ?_
          refine x_icmp.trans (pif_lt ?_ ?_)
          · refine (zrun_b (es := q_X10_crest_39) rfl rfl).trans ?_
            refine (t_X10_crest_39 _ _ _ _ _ _ _ _ _ _ _ _ _).trans ?_
            exact x_iret
          · refine (t_X10_crest_32 _ _ _ _ _ _ _ _ _ _ _ _).trans ?_
            refine x_icmp.trans (pif_le ?_ ?_)
            · refine (zrun_b (es := q_X10_crest_41) rfl rfl).trans ?_
              refine (t_X10_crest_41 _ _ _ _ _ _ _ _ _ _ _).trans ?_
              refine x_if.trans (pif_lt ?_ ?_)
              · refine (zrun_b (es := q_X10_crest_52) rfl rfl).trans ?_
                refine (t_X10_crest_52 _ _ _ _ _ _ _ _ _ _ _ _ _).trans ?_
                exact x_iret
              · refine (t_X10_crest_46 _ _ _ _ _ _ _ _ _ _ _ _).trans ?_
                refine x_icmp.trans (pif_le ?_ ?_)
                · refine (zrun_b (es := q_X10_crest_54) rfl rfl).trans ?_
                  refine (t_X10_crest_54 _ _ _ _ _ _ _ _ _ _ _).trans ?_
                  refine (x_aald (N := 6) rfl rfl rfl rfl).trans (pix fun _ => ?_)
                  refine (t_X10_crest_64 _ _ _ _ _ _ _ _ _ _ _ _ _).trans ?_
                  refine (x_callV rfl rfl rfl rfl).trans ((cl_X10_crest_X3_foresee _ _ _).trans ((gr_X3_foresee _ _ _ _).trans (pbd fun _ => ?_)))
                  refine (t_X10_crest_73 _ _ _ _ _ _ _ _ _ _ _ _ _ _).trans ?_
                  refine x_cut.trans ?_
                  exact (zrun_c rfl).trans (glr_X10_crest_82 _ _ _ _ _ _ _ _ _ _ _)
                · refine (t_X10_crest_52 _ _ _ _ _ _ _ _ _ _ _ _ _).trans ?_
                  exact x_iret
            · refine (t_X10_crest_39 _ _ _ _ _ _ _ _ _ _ _ _ _).trans ?_
              exact x_iret
noncomputable def g_X10_crest {ρ : Type} (σ : zH) (av : List zAV) (q : zH → zAV → Option ρ) : Option ρ := match av with
  | [.inr (.inr (.inl (10, 0))), .inl xa1, .inl xa2, .inl xa3, .inl xa4, .inl xa5] => (d_X10_crest σ xa1 xa2 xa3 xa4 xa5).bind fun p => q p.1 (vI p.2)
  | _ => none
theorem gr_X10_crest {ρ : Type} (σ : zH) (xa1 : Int32) (xa2 : Int32) (xa3 : Int32) (xa4 : Int32) (xa5 : Int32) (q : zH → zAV → Option ρ) : g_X10_crest σ [vR 10 0, vI xa1, vI xa2, vI xa3, vI xa4, vI xa5] q = (d_X10_crest σ xa1 xa2 xa3 xa4 xa5).bind fun p => q p.1 (vI p.2) := rfl
theorem c_X10_crest {ρ : Type} {X : zX} (hX : zHX X) {σ : zH} {av : List zAV} {q : zH → zAV → Option ρ} {r : ρ} (h : g_X10_crest σ av q = some r) (hv : ∀ a ∈ av, zval X a) : zcon X 114 σ av q r := by
  unfold g_X10_crest at h
  split at h
  · exact zcon_I (n := 114) (ml := 10) (rc := 0) (st := 0) (kd := 10) (np := 5) (by decide +kernel) (by decide) ⟨_, _, rfl, rfl⟩ (Nat.le_of_ble_eq_true rfl) hv h (fun y h1 => (zin_ok (hy_X10_crest hX) bk_X10_crest (fun t f hf => by
      by_cases e82 : t = 82
      · rw [if_pos e82] at hf; subst e82; cases hf; exact ((fun σ L st r h => s_X10_crest_82 hX (s_X10_crest_123 hX) zN σ L st r h))
      rw [if_neg e82] at hf
      cases hf) ((e_X10_crest _ _ _ _ _ _).symm.trans h1)))
  · cases h
/-! SleepWaves.dream(III)I -/
def q_X10_dream_27 : List zEnt := zE 27 .ireturn 1 :: []
def q_X10_dream_26 : List zEnt := zEk 26 (.iconst (-1)) 1 (-1) :: q_X10_dream_27
def q_X10_dream_23 : List zEnt := zEa 23 (.if_icmp .le 5) 3 28 :: q_X10_dream_26
def q_X10_dream_20 : List zEnt := zE 20 (.iload_n 3) 1 :: zEk 21 (.bipush 96) 2 96 :: q_X10_dream_23
def q_X10_dream_17 : List zEnt := zEa 17 (.ifCond .lt 9) 3 26 :: q_X10_dream_20
def q_X10_dream_16 : List zEnt := zE 16 (.iload_n 3) 1 :: q_X10_dream_17
def q_X10_dream_13 : List zEnt := zEa 13 (.ifCond .eq 13) 3 26 :: q_X10_dream_16
def q_X10_dream_10 : List zEnt := zEc 10 (.invokevirtual 138) 3 123 2 72 0 :: q_X10_dream_13
def q_X10_dream_8 : List zEnt := zE 8 (.aload_n 0) 1 :: zE 9 (.iload_n 2) 1 :: q_X10_dream_10
def q_X10_dream_5 : List zEnt := zEa 5 (.ifCond .eq 21) 3 26 :: q_X10_dream_8
def q_X10_dream_2 : List zEnt := zEc 2 (.invokevirtual 122) 3 122 2 50 0 :: q_X10_dream_5
def q_X10_dream_0 : List zEnt := zE 0 (.aload_n 0) 1 :: zE 1 (.iload_n 1) 1 :: q_X10_dream_2
def q_X10_dream_42 : List zEnt := zEk 42 (.iconst 1) 1 1 :: zE 43 (.iload_n 2) 1 :: zE 44 .ishl 1 :: zE 45 (.istore 4) 2 :: zEk 47 (.iconst 0) 1 0 :: zE 48 (.istore 5) 2 :: [zE 50 .nop 0]
def q_X10_dream_39 : List zEnt := zEc 39 (.invokevirtual 261) 3 25 3 99 1 :: q_X10_dream_42
def q_X10_dream_38 : List zEnt := zE 38 (.iload_n 3) 1 :: q_X10_dream_39
def q_X10_dream_37 : List zEnt := zE 37 .aaload 1 :: q_X10_dream_38
def q_X10_dream_28 : List zEnt := zE 28 (.aload_n 0) 1 :: zEf 29 (.getfield 89) 3 10 12 148 (2, 3, 0) :: zE 32 (.aload_n 0) 1 :: zEf 33 (.getfield 46) 3 10 4 140 (2, 38, 0) :: zE 36 (.iload_n 1) 1 :: q_X10_dream_37
def q_X10_dream_72 : List zEnt := zEa 72 (.goto (-22)) 3 50 :: []
def q_X10_dream_67 : List zEnt := zE 67 (.istore 4) 2 :: zEk 69 (.iinc 5 1) 3 1 :: q_X10_dream_72
def q_X10_dream_64 : List zEnt := zEc 64 (.invokevirtual 268) 3 29 3 107 0 :: q_X10_dream_67
def q_X10_dream_56 : List zEnt := zE 56 (.aload_n 0) 1 :: zEf 57 (.getfield 89) 3 10 12 148 (2, 3, 0) :: zE 60 (.iload 4) 2 :: zE 62 (.iload 5) 2 :: q_X10_dream_64
def q_X10_dream_53 : List zEnt := zEa 53 (.if_icmp .ge 22) 3 75 :: q_X10_dream_56
def q_X10_dream_50 : List zEnt := zE 50 (.iload 5) 2 :: zE 52 (.iload_n 3) 1 :: q_X10_dream_53
def q_X10_dream_77 : List zEnt := zE 77 .ireturn 1 :: []
def q_X10_dream_75 : List zEnt := zE 75 (.iload 4) 2 :: q_X10_dream_77
def b_X10_dream : List (Nat × List zEnt) := [(0, q_X10_dream_0), (26, q_X10_dream_26), (28, q_X10_dream_28), (50, q_X10_dream_50), (75, q_X10_dream_75)]
theorem bk_X10_dream : zchB 115 b_X10_dream = true := by decide +kernel
noncomputable def cc_X10_dream {ρ : Type} : Nat → zH → List zAV → (zH → zAV → Option ρ) → Option ρ := fun n σ av q => if n = 122 then g_X10_isLaw σ av q else if n = 123 then g_X10_isCompany σ av q else if n = 25 then g_X3_foresee σ av q else if n = 29 then g_X3_dreamOn σ av q else none
theorem cs_X10_dream {ρ : Type} {X : zX} (hX : zHX X) : zCS X (cc_X10_dream (ρ := ρ)) := by
  intro n σ av q r h hv
  unfold cc_X10_dream at h
  by_cases e_X10_isLaw : n = 122
  · rw [if_pos e_X10_isLaw] at h
    subst e_X10_isLaw
    exact c_X10_isLaw hX h hv
  rw [if_neg e_X10_isLaw] at h
  by_cases e_X10_isCompany : n = 123
  · rw [if_pos e_X10_isCompany] at h
    subst e_X10_isCompany
    exact c_X10_isCompany hX h hv
  rw [if_neg e_X10_isCompany] at h
  by_cases e_X3_foresee : n = 25
  · rw [if_pos e_X3_foresee] at h
    subst e_X3_foresee
    exact c_X3_foresee hX h hv
  rw [if_neg e_X3_foresee] at h
  by_cases e_X3_dreamOn : n = 29
  · rw [if_pos e_X3_dreamOn] at h
    subst e_X3_dreamOn
    exact c_X3_dreamOn hX h hv
  rw [if_neg e_X3_dreamOn] at h
  cases h
theorem cl_X10_dream_X10_isLaw {ρ : Type} (σ : zH) (av : List zAV) (q : zH → zAV → Option ρ) : cc_X10_dream 122 σ av q = g_X10_isLaw σ av q := rfl
theorem cl_X10_dream_X10_isCompany {ρ : Type} (σ : zH) (av : List zAV) (q : zH → zAV → Option ρ) : cc_X10_dream 123 σ av q = g_X10_isCompany σ av q := rfl
theorem cl_X10_dream_X3_foresee {ρ : Type} (σ : zH) (av : List zAV) (q : zH → zAV → Option ρ) : cc_X10_dream 25 σ av q = g_X3_foresee σ av q := rfl
theorem cl_X10_dream_X3_dreamOn {ρ : Type} (σ : zH) (av : List zAV) (q : zH → zAV → Option ρ) : cc_X10_dream 29 σ av q = g_X3_dreamOn σ av q := rfl
theorem hy_X10_dream {ρ : Type} {X : zX} (hX : zHX X) : zHY X 115 (cc_X10_dream (ρ := ρ)) := zHX.hY hX (cs_X10_dream hX) (zmok_all 115 (by decide))
def gl_X10_dream_50 {ρ : Type} (f : zH → Int32 → Int32 → Int32 → Option ρ) (σ : zH) (L st : List zAV) : Option ρ := match L, st with
  | [.inr (.inr (.inl (10, 0))), _, _, .inl x3, .inl x4, .inl x5], [] => f σ x3 x4 x5
  | _, _ => none
theorem glr_X10_dream_50 {ρ : Type} (f : zH → Int32 → Int32 → Int32 → Option ρ) (σ : zH) (x3 : Int32) (x4 : Int32) (x5 : Int32) (y1 : zAV) (y2 : zAV) : gl_X10_dream_50 f σ [vR 10 0, y1, y2, vI x3, vI x4, vI x5] [] = f σ x3 x4 x5 := rfl
theorem t_X10_dream_0 {G : Nat → zH → List zAV → List zAV → Option (zH × Int32)} (es : List zEnt) (σ : zH) (x1 : Int32) (x2 : Int32) (x3 : Int32) (y4 : zAV) (y5 : zAV)  : zev cc_X10_dream G 0 krI (zE 0 (.aload_n 0) 1 :: zE 1 (.iload_n 1) 1 :: es) σ [vR 10 0, vI x1, vI x2, vI x3, y4, y5] [] = zev cc_X10_dream G 0 krI es σ [vR 10 0, vI x1, vI x2, vI x3, y4, y5] [vI x1, vR 10 0] := rfl
theorem t_X10_dream_8 {G : Nat → zH → List zAV → List zAV → Option (zH × Int32)} (es : List zEnt) (σ : zH) (x1 : Int32) (x2 : Int32) (x3 : Int32) (y4 : zAV) (y5 : zAV)  : zev cc_X10_dream G 0 krI (zE 8 (.aload_n 0) 1 :: zE 9 (.iload_n 2) 1 :: es) σ [vR 10 0, vI x1, vI x2, vI x3, y4, y5] [] = zev cc_X10_dream G 0 krI es σ [vR 10 0, vI x1, vI x2, vI x3, y4, y5] [vI x2, vR 10 0] := rfl
theorem t_X10_dream_16 {G : Nat → zH → List zAV → List zAV → Option (zH × Int32)} (es : List zEnt) (σ : zH) (x1 : Int32) (x2 : Int32) (x3 : Int32) (y4 : zAV) (y5 : zAV)  : zev cc_X10_dream G 0 krI (zE 16 (.iload_n 3) 1 :: es) σ [vR 10 0, vI x1, vI x2, vI x3, y4, y5] [] = zev cc_X10_dream G 0 krI es σ [vR 10 0, vI x1, vI x2, vI x3, y4, y5] [vI x3] := rfl
theorem t_X10_dream_20 {G : Nat → zH → List zAV → List zAV → Option (zH × Int32)} (es : List zEnt) (σ : zH) (x1 : Int32) (x2 : Int32) (x3 : Int32) (y4 : zAV) (y5 : zAV) (w21 : Int32) : zev cc_X10_dream G 0 krI (zE 20 (.iload_n 3) 1 :: zEk 21 (.bipush 96) 2 w21 :: es) σ [vR 10 0, vI x1, vI x2, vI x3, y4, y5] [] = zev cc_X10_dream G 0 krI es σ [vR 10 0, vI x1, vI x2, vI x3, y4, y5] [vI w21, vI x3] := rfl
theorem t_X10_dream_26 {G : Nat → zH → List zAV → List zAV → Option (zH × Int32)} (es : List zEnt) (σ : zH)  (y0 : zAV) (y1 : zAV) (y2 : zAV) (y3 : zAV) (y4 : zAV) (y5 : zAV) (w26 : Int32) : zev cc_X10_dream G 0 krI (zEk 26 (.iconst (-1)) 1 w26 :: es) σ [y0, y1, y2, y3, y4, y5] [] = zev cc_X10_dream G 0 krI es σ [y0, y1, y2, y3, y4, y5] [vI w26] := rfl
theorem t_X10_dream_28 {G : Nat → zH → List zAV → List zAV → Option (zH × Int32)} (es : List zEnt) (σ : zH) (x1 : Int32) (x2 : Int32) (x3 : Int32) (y4 : zAV) (y5 : zAV)  : zev cc_X10_dream G 0 krI (zE 28 (.aload_n 0) 1 :: zEf 29 (.getfield 89) 3 10 12 148 (2, 3, 0) :: zE 32 (.aload_n 0) 1 :: zEf 33 (.getfield 46) 3 10 4 140 (2, 38, 0) :: zE 36 (.iload_n 1) 1 :: es) σ [vR 10 0, vI x1, vI x2, vI x3, y4, y5] [] = zev cc_X10_dream G 0 krI es σ [vR 10 0, vI x1, vI x2, vI x3, y4, y5] [vI x1, vR 38 0, vR 3 0] := rfl
theorem t_X10_dream_38 {G : Nat → zH → List zAV → List zAV → Option (zH × Int32)} (es : List zEnt) (σ : zH) (x2 : Int32) (x3 : Int32) (is1 : Nat) (y1 : zAV) (y4 : zAV) (y5 : zAV)  : zev cc_X10_dream G 0 krI (zE 38 (.iload_n 3) 1 :: es) σ [vR 10 0, y1, vI x2, vI x3, y4, y5] [vR 4 is1, vR 3 0] = zev cc_X10_dream G 0 krI es σ [vR 10 0, y1, vI x2, vI x3, y4, y5] [vI x3, vR 4 is1, vR 3 0] := rfl
theorem t_X10_dream_42 {G : Nat → zH → List zAV → List zAV → Option (zH × Int32)} (es : List zEnt) (σ : zH) (x2 : Int32) (x3 : Int32) (y1 : zAV) (y4 : zAV) (y5 : zAV) (w42 : Int32) (w47 : Int32) : zev cc_X10_dream G 0 krI (zEk 42 (.iconst 1) 1 w42 :: zE 43 (.iload_n 2) 1 :: zE 44 .ishl 1 :: zE 45 (.istore 4) 2 :: zEk 47 (.iconst 0) 1 w47 :: zE 48 (.istore 5) 2 :: es) σ [vR 10 0, y1, vI x2, vI x3, y4, y5] [] = zev cc_X10_dream G 0 krI es σ [vR 10 0, y1, vI x2, vI x3, vI (w42 <<< (x2 &&& 31)), vI w47] [] := rfl
theorem t_X10_dream_50 {G : Nat → zH → List zAV → List zAV → Option (zH × Int32)} (es : List zEnt) (σ : zH) (x3 : Int32) (x4 : Int32) (x5 : Int32) (y1 : zAV) (y2 : zAV)  : zev cc_X10_dream G 0 krI (zE 50 (.iload 5) 2 :: zE 52 (.iload_n 3) 1 :: es) σ [vR 10 0, y1, y2, vI x3, vI x4, vI x5] [] = zev cc_X10_dream G 0 krI es σ [vR 10 0, y1, y2, vI x3, vI x4, vI x5] [vI x3, vI x5] := rfl
theorem t_X10_dream_56 {G : Nat → zH → List zAV → List zAV → Option (zH × Int32)} (es : List zEnt) (σ : zH) (x3 : Int32) (x4 : Int32) (x5 : Int32) (y1 : zAV) (y2 : zAV)  : zev cc_X10_dream G 0 krI (zE 56 (.aload_n 0) 1 :: zEf 57 (.getfield 89) 3 10 12 148 (2, 3, 0) :: zE 60 (.iload 4) 2 :: zE 62 (.iload 5) 2 :: es) σ [vR 10 0, y1, y2, vI x3, vI x4, vI x5] [] = zev cc_X10_dream G 0 krI es σ [vR 10 0, y1, y2, vI x3, vI x4, vI x5] [vI x5, vI x4, vR 3 0] := rfl
theorem t_X10_dream_67 {G : Nat → zH → List zAV → List zAV → Option (zH × Int32)} (es : List zEnt) (σ : zH) (x3 : Int32) (x5 : Int32) (xs0 : Int32) (y1 : zAV) (y2 : zAV) (y4 : zAV) (w69 : Int32) : zev cc_X10_dream G 0 krI (zE 67 (.istore 4) 2 :: zEk 69 (.iinc 5 1) 3 w69 :: es) σ [vR 10 0, y1, y2, vI x3, y4, vI x5] [vI xs0] = zev cc_X10_dream G 0 krI es σ [vR 10 0, y1, y2, vI x3, vI xs0, vI (x5 + w69)] [] := rfl
theorem t_X10_dream_75 {G : Nat → zH → List zAV → List zAV → Option (zH × Int32)} (es : List zEnt) (σ : zH) (x4 : Int32) (y0 : zAV) (y1 : zAV) (y2 : zAV) (y3 : zAV) (y5 : zAV)  : zev cc_X10_dream G 0 krI (zE 75 (.iload 4) 2 :: es) σ [y0, y1, y2, y3, vI x4, y5] [] = zev cc_X10_dream G 0 krI es σ [y0, y1, y2, y3, vI x4, y5] [vI x4] := rfl
noncomputable def k_X10_dream_50  : Nat → zH → Int32 → Int32 → Int32 → Option (zH × Int32)
  | 0, _, _, _, _ => none
  | n + 1, σ, x3, x4, x5 =>
    if x5 < x3 then
      (d_X3_dreamOn σ x4 x5).bind fun p1 =>
      (k_X10_dream_50 n) p1.1 x3 p1.2 (x5 + (1 : Int32))
    else
      some (σ, x4)
theorem e_X10_dream_50  (n : Nat) (σ : zH) (x3 : Int32) (x4 : Int32) (x5 : Int32) (y1 : zAV) (y2 : zAV) : k_X10_dream_50 (n + 1) σ x3 x4 x5 = zin cc_X10_dream (fun t => if t = 50 then some (gl_X10_dream_50 (k_X10_dream_50 n)) else none) 0 krI b_X10_dream 50 σ [vR 10 0, y1, y2, vI x3, vI x4, vI x5] [] := by
  rw [k_X10_dream_50]
  refine Eq.symm ((zin_b (es := q_X10_dream_50) rfl).trans ?_)
  refine (t_X10_dream_50 _ _ _ _ _ _ _).trans ?_
  refine x_icmp.trans (pif_ge ?_ ?_)
  · refine (zrun_b (es := q_X10_dream_75) rfl rfl).trans ?_
    refine (t_X10_dream_75 _ _ _ _ _ _ _ _).trans ?_
    exact x_iret
  · refine (t_X10_dream_56 _ _ _ _ _ _ _).trans ?_
    refine (x_callV rfl rfl rfl rfl).trans ((cl_X10_dream_X3_dreamOn _ _ _).trans ((gr_X3_dreamOn _ _ _ _).trans (pbd fun _ => ?_)))
    refine (t_X10_dream_67 _ _ _ _ _ _ _ _ _).trans ?_
    refine x_goto.trans ?_
    exact (zrun_c rfl).trans (glr_X10_dream_50 _ _ _ _ _ _ _)
theorem s_X10_dream_50 {X : zX} (hX : zHX X)   : ∀ n σ L st r, gl_X10_dream_50 (k_X10_dream_50 n) σ L st = some r → zGW X 115 krI 50 σ L st r := by
  intro n
  induction n with
  | zero =>
    intro σ L st r h
    unfold gl_X10_dream_50 at h
    split at h <;> cases h
  | succ n ih =>
    intro σ L st r h
    unfold gl_X10_dream_50 at h
    split at h
    · exact zin_ok (hy_X10_dream hX) bk_X10_dream (fun t f hf => by
      by_cases e50 : t = 50
      · rw [if_pos e50] at hf; subst e50; cases hf; exact ih
      rw [if_neg e50] at hf
      cases hf) ((e_X10_dream_50 _ _ _ _ _ _ _).symm.trans h)
    · cases h
noncomputable def d_X10_dream (σ : zH) (xa1 : Int32) (xa2 : Int32) (xa3 : Int32) : Option (zH × Int32) :=
  (d_X10_isLaw σ xa1).bind fun p1 =>
  if p1.2 = 0 then
    some (p1.1, (-1 : Int32))
  else
    (d_X10_isCompany p1.1 xa2).bind fun p2 =>
    if p2.2 = 0 then
      some (p2.1, (-1 : Int32))
    else
      if xa3 < 0 then
        some (p2.1, (-1 : Int32))
      else
        if (96 : Int32) < xa3 then
          some (p2.1, (-1 : Int32))
        else
          ix xa1 6 fun j3 =>
          (d_X3_foresee p2.1 (0 + j3) xa3).bind fun σ4 =>
          (k_X10_dream_50 zN) σ4 xa3 ((1 : Int32) <<< (xa2 &&& 31)) (0 : Int32)
theorem e_X10_dream (σ : zH) (xa1 : Int32) (xa2 : Int32) (xa3 : Int32) : d_X10_dream σ xa1 xa2 xa3 = zin cc_X10_dream (fun t => if t = 50 then some (gl_X10_dream_50 (k_X10_dream_50 zN)) else none) 0 krI b_X10_dream 0 σ [vR 10 0, vI xa1, vI xa2, vI xa3, vU, vU] [] := by
  unfold d_X10_dream
  refine Eq.symm ((zin_b (es := q_X10_dream_0) rfl).trans ?_)
  refine (t_X10_dream_0 _ _ _ _ _ _ _).trans ?_
  refine (x_callV rfl rfl rfl rfl).trans ((cl_X10_dream_X10_isLaw _ _ _).trans ((gr_X10_isLaw _ _ _).trans (pbd fun _ => ?_)))
  refine x_if.trans (pif_eq ?_ ?_)
  · refine (zrun_b (es := q_X10_dream_26) rfl rfl).trans ?_
    refine (t_X10_dream_26 _ _ _ _ _ _ _ _ _).trans ?_
    exact x_iret
  · refine (t_X10_dream_8 _ _ _ _ _ _ _).trans ?_
    refine (x_callV rfl rfl rfl rfl).trans ((cl_X10_dream_X10_isCompany _ _ _).trans ((gr_X10_isCompany _ _ _).trans (pbd fun _ => ?_)))
    refine x_if.trans (pif_eq ?_ ?_)
    · refine (zrun_b (es := q_X10_dream_26) rfl rfl).trans ?_
      refine (t_X10_dream_26 _ _ _ _ _ _ _ _ _).trans ?_
      exact x_iret
    · refine (t_X10_dream_16 _ _ _ _ _ _ _).trans ?_
      refine x_if.trans (pif_lt ?_ ?_)
      · refine (zrun_b (es := q_X10_dream_26) rfl rfl).trans ?_
        refine (t_X10_dream_26 _ _ _ _ _ _ _ _ _).trans ?_
        exact x_iret
      · refine (t_X10_dream_20 _ _ _ _ _ _ _ _).trans ?_
        refine x_icmp.trans (pif_le ?_ ?_)
        · refine (zrun_b (es := q_X10_dream_28) rfl rfl).trans ?_
          refine (t_X10_dream_28 _ _ _ _ _ _ _).trans ?_
          refine (x_aald (N := 6) rfl rfl rfl rfl).trans (pix fun _ => ?_)
          refine (t_X10_dream_38 _ _ _ _ _ _ _ _).trans ?_
          refine (x_callV rfl rfl rfl rfl).trans ((cl_X10_dream_X3_foresee _ _ _).trans ((gr_X3_foresee _ _ _ _).trans (pbd fun _ => ?_)))
          refine (t_X10_dream_42 _ _ _ _ _ _ _ _ _).trans ?_
          refine x_cut.trans ?_
          exact (zrun_c rfl).trans (glr_X10_dream_50 _ _ _ _ _ _ _)
        · refine (t_X10_dream_26 _ _ _ _ _ _ _ _ _).trans ?_
          exact x_iret
noncomputable def g_X10_dream {ρ : Type} (σ : zH) (av : List zAV) (q : zH → zAV → Option ρ) : Option ρ := match av with
  | [.inr (.inr (.inl (10, 0))), .inl xa1, .inl xa2, .inl xa3] => (d_X10_dream σ xa1 xa2 xa3).bind fun p => q p.1 (vI p.2)
  | _ => none
theorem gr_X10_dream {ρ : Type} (σ : zH) (xa1 : Int32) (xa2 : Int32) (xa3 : Int32) (q : zH → zAV → Option ρ) : g_X10_dream σ [vR 10 0, vI xa1, vI xa2, vI xa3] q = (d_X10_dream σ xa1 xa2 xa3).bind fun p => q p.1 (vI p.2) := rfl
theorem c_X10_dream {ρ : Type} {X : zX} (hX : zHX X) {σ : zH} {av : List zAV} {q : zH → zAV → Option ρ} {r : ρ} (h : g_X10_dream σ av q = some r) (hv : ∀ a ∈ av, zval X a) : zcon X 115 σ av q r := by
  unfold g_X10_dream at h
  split at h
  · exact zcon_I (n := 115) (ml := 6) (rc := 0) (st := 0) (kd := 10) (np := 3) (by decide +kernel) (by decide) ⟨_, _, rfl, rfl⟩ (Nat.le_of_ble_eq_true rfl) hv h (fun y h1 => (zin_ok (hy_X10_dream hX) bk_X10_dream (fun t f hf => by
      by_cases e50 : t = 50
      · rw [if_pos e50] at hf; subst e50; cases hf; exact ((fun σ L st r h => s_X10_dream_50 hX  zN σ L st r h))
      rw [if_neg e50] at hf
      cases hf) ((e_X10_dream _ _ _ _).symm.trans h1)))
  · cases h
/-! SleepWaves.told(IIII)I -/
def q_X10_told_37 : List zEnt := zE 37 .ireturn 1 :: []
def q_X10_told_36 : List zEnt := zEk 36 (.iconst (-1)) 1 (-1) :: q_X10_told_37
def q_X10_told_33 : List zEnt := zEa 33 (.if_icmp .le 5) 3 38 :: q_X10_told_36
def q_X10_told_29 : List zEnt := zE 29 (.iload 4) 2 :: zEk 31 (.bipush 96) 2 96 :: q_X10_told_33
def q_X10_told_26 : List zEnt := zEa 26 (.ifCond .lt 10) 3 36 :: q_X10_told_29
def q_X10_told_24 : List zEnt := zE 24 (.iload 4) 2 :: q_X10_told_26
def q_X10_told_21 : List zEnt := zEa 21 (.ifCond .eq 15) 3 36 :: q_X10_told_24
def q_X10_told_18 : List zEnt := zEc 18 (.invokevirtual 138) 3 123 2 72 0 :: q_X10_told_21
def q_X10_told_16 : List zEnt := zE 16 (.aload_n 0) 1 :: zE 17 (.iload_n 3) 1 :: q_X10_told_18
def q_X10_told_13 : List zEnt := zEa 13 (.ifCond .eq 23) 3 36 :: q_X10_told_16
def q_X10_told_10 : List zEnt := zEc 10 (.invokevirtual 138) 3 123 2 72 0 :: q_X10_told_13
def q_X10_told_8 : List zEnt := zE 8 (.aload_n 0) 1 :: zE 9 (.iload_n 2) 1 :: q_X10_told_10
def q_X10_told_5 : List zEnt := zEa 5 (.ifCond .eq 31) 3 36 :: q_X10_told_8
def q_X10_told_2 : List zEnt := zEc 2 (.invokevirtual 122) 3 122 2 50 0 :: q_X10_told_5
def q_X10_told_0 : List zEnt := zE 0 (.aload_n 0) 1 :: zE 1 (.iload_n 1) 1 :: q_X10_told_2
def q_X10_told_53 : List zEnt := zEk 53 (.iconst 1) 1 1 :: zE 54 (.iload_n 2) 1 :: zE 55 .ishl 1 :: zE 56 (.istore 5) 2 :: zEk 58 (.iconst 0) 1 0 :: zE 59 (.istore 6) 2 :: [zE 61 .nop 0]
def q_X10_told_50 : List zEnt := zEc 50 (.invokevirtual 261) 3 25 3 99 1 :: q_X10_told_53
def q_X10_told_48 : List zEnt := zE 48 (.iload 4) 2 :: q_X10_told_50
def q_X10_told_47 : List zEnt := zE 47 .aaload 1 :: q_X10_told_48
def q_X10_told_38 : List zEnt := zE 38 (.aload_n 0) 1 :: zEf 39 (.getfield 89) 3 10 12 148 (2, 3, 0) :: zE 42 (.aload_n 0) 1 :: zEf 43 (.getfield 46) 3 10 4 140 (2, 38, 0) :: zE 46 (.iload_n 1) 1 :: q_X10_told_47
def q_X10_told_79 : List zEnt := zE 79 .ireturn 1 :: []
def q_X10_told_77 : List zEnt := zE 77 (.iload 6) 2 :: q_X10_told_79
def q_X10_told_74 : List zEnt := zEa 74 (.ifCond .eq 6) 3 80 :: q_X10_told_77
def q_X10_told_68 : List zEnt := zE 68 (.iload 5) 2 :: zE 70 (.iload_n 3) 1 :: zE 71 .ishr 1 :: zEk 72 (.iconst 1) 1 1 :: zE 73 .iand 1 :: q_X10_told_74
def q_X10_told_65 : List zEnt := zEa 65 (.if_icmp .ge 34) 3 99 :: q_X10_told_68
def q_X10_told_61 : List zEnt := zE 61 (.iload 6) 2 :: zE 63 (.iload 4) 2 :: q_X10_told_65
def q_X10_told_96 : List zEnt := zEa 96 (.goto (-35)) 3 61 :: []
def q_X10_told_91 : List zEnt := zE 91 (.istore 5) 2 :: zEk 93 (.iinc 6 1) 3 1 :: q_X10_told_96
def q_X10_told_88 : List zEnt := zEc 88 (.invokevirtual 268) 3 29 3 107 0 :: q_X10_told_91
def q_X10_told_80 : List zEnt := zE 80 (.aload_n 0) 1 :: zEf 81 (.getfield 89) 3 10 12 148 (2, 3, 0) :: zE 84 (.iload 5) 2 :: zE 86 (.iload 6) 2 :: q_X10_told_88
def q_X10_told_110 : List zEnt := zEa 110 (.goto 5) 3 115 :: []
def q_X10_told_108 : List zEnt := zE 108 (.iload 4) 2 :: q_X10_told_110
def q_X10_told_105 : List zEnt := zEa 105 (.ifCond .eq 8) 3 113 :: q_X10_told_108
def q_X10_told_99 : List zEnt := zE 99 (.iload 5) 2 :: zE 101 (.iload_n 3) 1 :: zE 102 .ishr 1 :: zEk 103 (.iconst 1) 1 1 :: zE 104 .iand 1 :: q_X10_told_105
def q_X10_told_115 : List zEnt := zE 115 .ireturn 1 :: []
def q_X10_told_113 : List zEnt := zEk 113 (.bipush (-2)) 2 (-2) :: q_X10_told_115
def b_X10_told : List (Nat × List zEnt) := [(0, q_X10_told_0), (36, q_X10_told_36), (38, q_X10_told_38), (61, q_X10_told_61), (80, q_X10_told_80), (99, q_X10_told_99), (113, q_X10_told_113), (115, q_X10_told_115)]
theorem bk_X10_told : zchB 116 b_X10_told = true := by decide +kernel
noncomputable def cc_X10_told {ρ : Type} : Nat → zH → List zAV → (zH → zAV → Option ρ) → Option ρ := fun n σ av q => if n = 122 then g_X10_isLaw σ av q else if n = 123 then g_X10_isCompany σ av q else if n = 25 then g_X3_foresee σ av q else if n = 29 then g_X3_dreamOn σ av q else none
theorem cs_X10_told {ρ : Type} {X : zX} (hX : zHX X) : zCS X (cc_X10_told (ρ := ρ)) := by
  intro n σ av q r h hv
  unfold cc_X10_told at h
  by_cases e_X10_isLaw : n = 122
  · rw [if_pos e_X10_isLaw] at h
    subst e_X10_isLaw
    exact c_X10_isLaw hX h hv
  rw [if_neg e_X10_isLaw] at h
  by_cases e_X10_isCompany : n = 123
  · rw [if_pos e_X10_isCompany] at h
    subst e_X10_isCompany
    exact c_X10_isCompany hX h hv
  rw [if_neg e_X10_isCompany] at h
  by_cases e_X3_foresee : n = 25
  · rw [if_pos e_X3_foresee] at h
    subst e_X3_foresee
    exact c_X3_foresee hX h hv
  rw [if_neg e_X3_foresee] at h
  by_cases e_X3_dreamOn : n = 29
  · rw [if_pos e_X3_dreamOn] at h
    subst e_X3_dreamOn
    exact c_X3_dreamOn hX h hv
  rw [if_neg e_X3_dreamOn] at h
  cases h
theorem cl_X10_told_X10_isLaw {ρ : Type} (σ : zH) (av : List zAV) (q : zH → zAV → Option ρ) : cc_X10_told 122 σ av q = g_X10_isLaw σ av q := rfl
theorem cl_X10_told_X10_isCompany {ρ : Type} (σ : zH) (av : List zAV) (q : zH → zAV → Option ρ) : cc_X10_told 123 σ av q = g_X10_isCompany σ av q := rfl
theorem cl_X10_told_X3_foresee {ρ : Type} (σ : zH) (av : List zAV) (q : zH → zAV → Option ρ) : cc_X10_told 25 σ av q = g_X3_foresee σ av q := rfl
theorem cl_X10_told_X3_dreamOn {ρ : Type} (σ : zH) (av : List zAV) (q : zH → zAV → Option ρ) : cc_X10_told 29 σ av q = g_X3_dreamOn σ av q := rfl
theorem hy_X10_told {ρ : Type} {X : zX} (hX : zHX X) : zHY X 116 (cc_X10_told (ρ := ρ)) := zHX.hY hX (cs_X10_told hX) (zmok_all 116 (by decide))
def gl_X10_told_61 {ρ : Type} (f : zH → Int32 → Int32 → Int32 → Int32 → Option ρ) (σ : zH) (L st : List zAV) : Option ρ := match L, st with
  | [.inr (.inr (.inl (10, 0))), _, _, .inl x3, .inl x4, .inl x5, .inl x6], [] => f σ x3 x4 x5 x6
  | _, _ => none
def gl_X10_told_99 {ρ : Type} (f : zH → Int32 → Int32 → Int32 → Option ρ) (σ : zH) (L st : List zAV) : Option ρ := match L, st with
  | [_, _, _, .inl x3, .inl x4, .inl x5, _], [] => f σ x3 x4 x5
  | _, _ => none
theorem glr_X10_told_61 {ρ : Type} (f : zH → Int32 → Int32 → Int32 → Int32 → Option ρ) (σ : zH) (x3 : Int32) (x4 : Int32) (x5 : Int32) (x6 : Int32) (y1 : zAV) (y2 : zAV) : gl_X10_told_61 f σ [vR 10 0, y1, y2, vI x3, vI x4, vI x5, vI x6] [] = f σ x3 x4 x5 x6 := rfl
theorem glr_X10_told_99 {ρ : Type} (f : zH → Int32 → Int32 → Int32 → Option ρ) (σ : zH) (x3 : Int32) (x4 : Int32) (x5 : Int32) (y0 : zAV) (y1 : zAV) (y2 : zAV) (y6 : zAV) : gl_X10_told_99 f σ [y0, y1, y2, vI x3, vI x4, vI x5, y6] [] = f σ x3 x4 x5 := rfl
theorem t_X10_told_0 {G : Nat → zH → List zAV → List zAV → Option (zH × Int32)} (es : List zEnt) (σ : zH) (x1 : Int32) (x2 : Int32) (x3 : Int32) (x4 : Int32) (y5 : zAV) (y6 : zAV)  : zev cc_X10_told G 0 krI (zE 0 (.aload_n 0) 1 :: zE 1 (.iload_n 1) 1 :: es) σ [vR 10 0, vI x1, vI x2, vI x3, vI x4, y5, y6] [] = zev cc_X10_told G 0 krI es σ [vR 10 0, vI x1, vI x2, vI x3, vI x4, y5, y6] [vI x1, vR 10 0] := rfl
theorem t_X10_told_8 {G : Nat → zH → List zAV → List zAV → Option (zH × Int32)} (es : List zEnt) (σ : zH) (x1 : Int32) (x2 : Int32) (x3 : Int32) (x4 : Int32) (y5 : zAV) (y6 : zAV)  : zev cc_X10_told G 0 krI (zE 8 (.aload_n 0) 1 :: zE 9 (.iload_n 2) 1 :: es) σ [vR 10 0, vI x1, vI x2, vI x3, vI x4, y5, y6] [] = zev cc_X10_told G 0 krI es σ [vR 10 0, vI x1, vI x2, vI x3, vI x4, y5, y6] [vI x2, vR 10 0] := rfl
theorem t_X10_told_16 {G : Nat → zH → List zAV → List zAV → Option (zH × Int32)} (es : List zEnt) (σ : zH) (x1 : Int32) (x2 : Int32) (x3 : Int32) (x4 : Int32) (y5 : zAV) (y6 : zAV)  : zev cc_X10_told G 0 krI (zE 16 (.aload_n 0) 1 :: zE 17 (.iload_n 3) 1 :: es) σ [vR 10 0, vI x1, vI x2, vI x3, vI x4, y5, y6] [] = zev cc_X10_told G 0 krI es σ [vR 10 0, vI x1, vI x2, vI x3, vI x4, y5, y6] [vI x3, vR 10 0] := rfl
theorem t_X10_told_24 {G : Nat → zH → List zAV → List zAV → Option (zH × Int32)} (es : List zEnt) (σ : zH) (x1 : Int32) (x2 : Int32) (x3 : Int32) (x4 : Int32) (y5 : zAV) (y6 : zAV)  : zev cc_X10_told G 0 krI (zE 24 (.iload 4) 2 :: es) σ [vR 10 0, vI x1, vI x2, vI x3, vI x4, y5, y6] [] = zev cc_X10_told G 0 krI es σ [vR 10 0, vI x1, vI x2, vI x3, vI x4, y5, y6] [vI x4] := rfl
theorem t_X10_told_29 {G : Nat → zH → List zAV → List zAV → Option (zH × Int32)} (es : List zEnt) (σ : zH) (x1 : Int32) (x2 : Int32) (x3 : Int32) (x4 : Int32) (y5 : zAV) (y6 : zAV) (w31 : Int32) : zev cc_X10_told G 0 krI (zE 29 (.iload 4) 2 :: zEk 31 (.bipush 96) 2 w31 :: es) σ [vR 10 0, vI x1, vI x2, vI x3, vI x4, y5, y6] [] = zev cc_X10_told G 0 krI es σ [vR 10 0, vI x1, vI x2, vI x3, vI x4, y5, y6] [vI w31, vI x4] := rfl
theorem t_X10_told_36 {G : Nat → zH → List zAV → List zAV → Option (zH × Int32)} (es : List zEnt) (σ : zH)  (y0 : zAV) (y1 : zAV) (y2 : zAV) (y3 : zAV) (y4 : zAV) (y5 : zAV) (y6 : zAV) (w36 : Int32) : zev cc_X10_told G 0 krI (zEk 36 (.iconst (-1)) 1 w36 :: es) σ [y0, y1, y2, y3, y4, y5, y6] [] = zev cc_X10_told G 0 krI es σ [y0, y1, y2, y3, y4, y5, y6] [vI w36] := rfl
theorem t_X10_told_38 {G : Nat → zH → List zAV → List zAV → Option (zH × Int32)} (es : List zEnt) (σ : zH) (x1 : Int32) (x2 : Int32) (x3 : Int32) (x4 : Int32) (y5 : zAV) (y6 : zAV)  : zev cc_X10_told G 0 krI (zE 38 (.aload_n 0) 1 :: zEf 39 (.getfield 89) 3 10 12 148 (2, 3, 0) :: zE 42 (.aload_n 0) 1 :: zEf 43 (.getfield 46) 3 10 4 140 (2, 38, 0) :: zE 46 (.iload_n 1) 1 :: es) σ [vR 10 0, vI x1, vI x2, vI x3, vI x4, y5, y6] [] = zev cc_X10_told G 0 krI es σ [vR 10 0, vI x1, vI x2, vI x3, vI x4, y5, y6] [vI x1, vR 38 0, vR 3 0] := rfl
theorem t_X10_told_48 {G : Nat → zH → List zAV → List zAV → Option (zH × Int32)} (es : List zEnt) (σ : zH) (x2 : Int32) (x3 : Int32) (x4 : Int32) (is1 : Nat) (y1 : zAV) (y5 : zAV) (y6 : zAV)  : zev cc_X10_told G 0 krI (zE 48 (.iload 4) 2 :: es) σ [vR 10 0, y1, vI x2, vI x3, vI x4, y5, y6] [vR 4 is1, vR 3 0] = zev cc_X10_told G 0 krI es σ [vR 10 0, y1, vI x2, vI x3, vI x4, y5, y6] [vI x4, vR 4 is1, vR 3 0] := rfl
theorem t_X10_told_53 {G : Nat → zH → List zAV → List zAV → Option (zH × Int32)} (es : List zEnt) (σ : zH) (x2 : Int32) (x3 : Int32) (x4 : Int32) (y1 : zAV) (y5 : zAV) (y6 : zAV) (w53 : Int32) (w58 : Int32) : zev cc_X10_told G 0 krI (zEk 53 (.iconst 1) 1 w53 :: zE 54 (.iload_n 2) 1 :: zE 55 .ishl 1 :: zE 56 (.istore 5) 2 :: zEk 58 (.iconst 0) 1 w58 :: zE 59 (.istore 6) 2 :: es) σ [vR 10 0, y1, vI x2, vI x3, vI x4, y5, y6] [] = zev cc_X10_told G 0 krI es σ [vR 10 0, y1, vI x2, vI x3, vI x4, vI (w53 <<< (x2 &&& 31)), vI w58] [] := rfl
theorem t_X10_told_61 {G : Nat → zH → List zAV → List zAV → Option (zH × Int32)} (es : List zEnt) (σ : zH) (x3 : Int32) (x4 : Int32) (x5 : Int32) (x6 : Int32) (y1 : zAV) (y2 : zAV)  : zev cc_X10_told G 0 krI (zE 61 (.iload 6) 2 :: zE 63 (.iload 4) 2 :: es) σ [vR 10 0, y1, y2, vI x3, vI x4, vI x5, vI x6] [] = zev cc_X10_told G 0 krI es σ [vR 10 0, y1, y2, vI x3, vI x4, vI x5, vI x6] [vI x4, vI x6] := rfl
theorem t_X10_told_68 {G : Nat → zH → List zAV → List zAV → Option (zH × Int32)} (es : List zEnt) (σ : zH) (x3 : Int32) (x4 : Int32) (x5 : Int32) (x6 : Int32) (y1 : zAV) (y2 : zAV) (w72 : Int32) : zev cc_X10_told G 0 krI (zE 68 (.iload 5) 2 :: zE 70 (.iload_n 3) 1 :: zE 71 .ishr 1 :: zEk 72 (.iconst 1) 1 w72 :: zE 73 .iand 1 :: es) σ [vR 10 0, y1, y2, vI x3, vI x4, vI x5, vI x6] [] = zev cc_X10_told G 0 krI es σ [vR 10 0, y1, y2, vI x3, vI x4, vI x5, vI x6] [vI ((x5 >>> (x3 &&& 31)) &&& w72)] := rfl
theorem t_X10_told_77 {G : Nat → zH → List zAV → List zAV → Option (zH × Int32)} (es : List zEnt) (σ : zH) (x6 : Int32) (y0 : zAV) (y1 : zAV) (y2 : zAV) (y3 : zAV) (y4 : zAV) (y5 : zAV)  : zev cc_X10_told G 0 krI (zE 77 (.iload 6) 2 :: es) σ [y0, y1, y2, y3, y4, y5, vI x6] [] = zev cc_X10_told G 0 krI es σ [y0, y1, y2, y3, y4, y5, vI x6] [vI x6] := rfl
theorem t_X10_told_80 {G : Nat → zH → List zAV → List zAV → Option (zH × Int32)} (es : List zEnt) (σ : zH) (x3 : Int32) (x4 : Int32) (x5 : Int32) (x6 : Int32) (y1 : zAV) (y2 : zAV)  : zev cc_X10_told G 0 krI (zE 80 (.aload_n 0) 1 :: zEf 81 (.getfield 89) 3 10 12 148 (2, 3, 0) :: zE 84 (.iload 5) 2 :: zE 86 (.iload 6) 2 :: es) σ [vR 10 0, y1, y2, vI x3, vI x4, vI x5, vI x6] [] = zev cc_X10_told G 0 krI es σ [vR 10 0, y1, y2, vI x3, vI x4, vI x5, vI x6] [vI x6, vI x5, vR 3 0] := rfl
theorem t_X10_told_91 {G : Nat → zH → List zAV → List zAV → Option (zH × Int32)} (es : List zEnt) (σ : zH) (x3 : Int32) (x4 : Int32) (x6 : Int32) (xs0 : Int32) (y1 : zAV) (y2 : zAV) (y5 : zAV) (w93 : Int32) : zev cc_X10_told G 0 krI (zE 91 (.istore 5) 2 :: zEk 93 (.iinc 6 1) 3 w93 :: es) σ [vR 10 0, y1, y2, vI x3, vI x4, y5, vI x6] [vI xs0] = zev cc_X10_told G 0 krI es σ [vR 10 0, y1, y2, vI x3, vI x4, vI xs0, vI (x6 + w93)] [] := rfl
theorem t_X10_told_99 {G : Nat → zH → List zAV → List zAV → Option (zH × Int32)} (es : List zEnt) (σ : zH) (x3 : Int32) (x4 : Int32) (x5 : Int32) (y0 : zAV) (y1 : zAV) (y2 : zAV) (y6 : zAV) (w103 : Int32) : zev cc_X10_told G 0 krI (zE 99 (.iload 5) 2 :: zE 101 (.iload_n 3) 1 :: zE 102 .ishr 1 :: zEk 103 (.iconst 1) 1 w103 :: zE 104 .iand 1 :: es) σ [y0, y1, y2, vI x3, vI x4, vI x5, y6] [] = zev cc_X10_told G 0 krI es σ [y0, y1, y2, vI x3, vI x4, vI x5, y6] [vI ((x5 >>> (x3 &&& 31)) &&& w103)] := rfl
theorem t_X10_told_108 {G : Nat → zH → List zAV → List zAV → Option (zH × Int32)} (es : List zEnt) (σ : zH) (x4 : Int32) (y0 : zAV) (y1 : zAV) (y2 : zAV) (y3 : zAV) (y5 : zAV) (y6 : zAV)  : zev cc_X10_told G 0 krI (zE 108 (.iload 4) 2 :: es) σ [y0, y1, y2, y3, vI x4, y5, y6] [] = zev cc_X10_told G 0 krI es σ [y0, y1, y2, y3, vI x4, y5, y6] [vI x4] := rfl
theorem t_X10_told_113 {G : Nat → zH → List zAV → List zAV → Option (zH × Int32)} (es : List zEnt) (σ : zH)  (y0 : zAV) (y1 : zAV) (y2 : zAV) (y3 : zAV) (y4 : zAV) (y5 : zAV) (y6 : zAV) (w113 : Int32) : zev cc_X10_told G 0 krI (zEk 113 (.bipush (-2)) 2 w113 :: es) σ [y0, y1, y2, y3, y4, y5, y6] [] = zev cc_X10_told G 0 krI es σ [y0, y1, y2, y3, y4, y5, y6] [vI w113] := rfl
noncomputable def k_X10_told_61 (c99 : zH → Int32 → Int32 → Int32 → Option (zH × Int32)) : Nat → zH → Int32 → Int32 → Int32 → Int32 → Option (zH × Int32)
  | 0, _, _, _, _, _ => none
  | n + 1, σ, x3, x4, x5, x6 =>
    if x6 < x4 then
      if ((x5 >>> (x3 &&& 31)) &&& (1 : Int32)) = 0 then
        (d_X3_dreamOn σ x5 x6).bind fun p1 =>
        (k_X10_told_61 c99 n) p1.1 x3 x4 p1.2 (x6 + (1 : Int32))
      else
        some (σ, x6)
    else
      c99 σ x3 x4 x5
theorem e_X10_told_61 (c99 : zH → Int32 → Int32 → Int32 → Option (zH × Int32)) (n : Nat) (σ : zH) (x3 : Int32) (x4 : Int32) (x5 : Int32) (x6 : Int32) (y1 : zAV) (y2 : zAV) : k_X10_told_61 c99 (n + 1) σ x3 x4 x5 x6 = zin cc_X10_told (fun t => if t = 61 then some (gl_X10_told_61 (k_X10_told_61 c99 n)) else if t = 99 then some (gl_X10_told_99 c99) else none) 0 krI b_X10_told 61 σ [vR 10 0, y1, y2, vI x3, vI x4, vI x5, vI x6] [] := by
  rw [k_X10_told_61]
  refine Eq.symm ((zin_b (es := q_X10_told_61) rfl).trans ?_)
  refine (t_X10_told_61 _ _ _ _ _ _ _ _).trans ?_
  refine x_icmp.trans (pif_ge ?_ ?_)
  · exact (zrun_c rfl).trans (glr_X10_told_99 _ _ _ _ _ _ _ _ _)
  · refine (t_X10_told_68 _ _ _ _ _ _ _ _ _).trans ?_
    refine x_if.trans (pif_eq ?_ ?_)
    · refine (zrun_b (es := q_X10_told_80) rfl rfl).trans ?_
      refine (t_X10_told_80 _ _ _ _ _ _ _ _).trans ?_
      refine (x_callV rfl rfl rfl rfl).trans ((cl_X10_told_X3_dreamOn _ _ _).trans ((gr_X3_dreamOn _ _ _ _).trans (pbd fun _ => ?_)))
      refine (t_X10_told_91 _ _ _ _ _ _ _ _ _ _).trans ?_
      refine x_goto.trans ?_
      exact (zrun_c rfl).trans (glr_X10_told_61 _ _ _ _ _ _ _ _)
    · refine (t_X10_told_77 _ _ _ _ _ _ _ _ _).trans ?_
      exact x_iret
theorem s_X10_told_61 {X : zX} (hX : zHX X) {c99 : zH → Int32 → Int32 → Int32 → Option (zH × Int32)} (h99 : ∀ σ L st r, gl_X10_told_99 c99 σ L st = some r → zGW X 116 krI 99 σ L st r) : ∀ n σ L st r, gl_X10_told_61 (k_X10_told_61 c99 n) σ L st = some r → zGW X 116 krI 61 σ L st r := by
  intro n
  induction n with
  | zero =>
    intro σ L st r h
    unfold gl_X10_told_61 at h
    split at h <;> cases h
  | succ n ih =>
    intro σ L st r h
    unfold gl_X10_told_61 at h
    split at h
    · exact zin_ok (hy_X10_told hX) bk_X10_told (fun t f hf => by
      by_cases e61 : t = 61
      · rw [if_pos e61] at hf; subst e61; cases hf; exact ih
      rw [if_neg e61] at hf
      by_cases e99 : t = 99
      · rw [if_pos e99] at hf; subst e99; cases hf; exact h99
      rw [if_neg e99] at hf
      cases hf) ((e_X10_told_61 _ _ _ _ _ _ _ _ _).symm.trans h)
    · cases h
noncomputable def j_X10_told_99  (σ : zH) (x3 : Int32) (x4 : Int32) (x5 : Int32) : Option (zH × Int32) :=
  if ((x5 >>> (x3 &&& 31)) &&& (1 : Int32)) = 0 then
    some (σ, (-2 : Int32))
  else
    some (σ, x4)
theorem e_X10_told_99  (σ : zH) (x3 : Int32) (x4 : Int32) (x5 : Int32) (y0 : zAV) (y1 : zAV) (y2 : zAV) (y6 : zAV) : j_X10_told_99 σ x3 x4 x5 = zin cc_X10_told (fun t => none) 0 krI b_X10_told 99 σ [y0, y1, y2, vI x3, vI x4, vI x5, y6] [] := by
  unfold j_X10_told_99
  refine Eq.symm ((zin_b (es := q_X10_told_99) rfl).trans ?_)
  refine (t_X10_told_99 _ _ _ _ _ _ _ _ _ _).trans ?_
  refine x_if.trans (pif_eq ?_ ?_)
  · refine (zrun_b (es := q_X10_told_113) rfl rfl).trans ?_
    refine (t_X10_told_113 _ _ _ _ _ _ _ _ _ _).trans ?_
    exact x_iret
  · refine (t_X10_told_108 _ _ _ _ _ _ _ _ _).trans ?_
    refine x_goto.trans ?_
    refine (zrun_b (es := q_X10_told_115) rfl rfl).trans ?_
    exact x_iret
theorem s_X10_told_99 {X : zX} (hX : zHX X)   : ∀ σ L st r, gl_X10_told_99 j_X10_told_99 σ L st = some r → zGW X 116 krI 99 σ L st r := by
  intro σ L st r h
  unfold gl_X10_told_99 at h
  split at h
  · exact zin_ok (hy_X10_told hX) bk_X10_told (fun t f hf => by
    cases hf) ((e_X10_told_99 _ _ _ _ _ _ _ _).symm.trans h)
  · cases h
noncomputable def d_X10_told (σ : zH) (xa1 : Int32) (xa2 : Int32) (xa3 : Int32) (xa4 : Int32) : Option (zH × Int32) :=
  (d_X10_isLaw σ xa1).bind fun p1 =>
  if p1.2 = 0 then
    some (p1.1, (-1 : Int32))
  else
    (d_X10_isCompany p1.1 xa2).bind fun p2 =>
    if p2.2 = 0 then
      some (p2.1, (-1 : Int32))
    else
      (d_X10_isCompany p2.1 xa3).bind fun p3 =>
      if p3.2 = 0 then
        some (p3.1, (-1 : Int32))
      else
        if xa4 < 0 then
          some (p3.1, (-1 : Int32))
        else
          if (96 : Int32) < xa4 then
            some (p3.1, (-1 : Int32))
          else
            ix xa1 6 fun j4 =>
            (d_X3_foresee p3.1 (0 + j4) xa4).bind fun σ5 =>
            (k_X10_told_61 j_X10_told_99 zN) σ5 xa3 xa4 ((1 : Int32) <<< (xa2 &&& 31)) (0 : Int32)
theorem e_X10_told (σ : zH) (xa1 : Int32) (xa2 : Int32) (xa3 : Int32) (xa4 : Int32) : d_X10_told σ xa1 xa2 xa3 xa4 = zin cc_X10_told (fun t => if t = 61 then some (gl_X10_told_61 (k_X10_told_61 j_X10_told_99 zN)) else none) 0 krI b_X10_told 0 σ [vR 10 0, vI xa1, vI xa2, vI xa3, vI xa4, vU, vU] [] := by
  unfold d_X10_told
  refine Eq.symm ((zin_b (es := q_X10_told_0) rfl).trans ?_)
  refine (t_X10_told_0 _ _ _ _ _ _ _ _).trans ?_
  refine (x_callV rfl rfl rfl rfl).trans ((cl_X10_told_X10_isLaw _ _ _).trans ((gr_X10_isLaw _ _ _).trans (pbd fun _ => ?_)))
  refine x_if.trans (pif_eq ?_ ?_)
  · refine (zrun_b (es := q_X10_told_36) rfl rfl).trans ?_
    refine (t_X10_told_36 _ _ _ _ _ _ _ _ _ _).trans ?_
    exact x_iret
  · refine (t_X10_told_8 _ _ _ _ _ _ _ _).trans ?_
    refine (x_callV rfl rfl rfl rfl).trans ((cl_X10_told_X10_isCompany _ _ _).trans ((gr_X10_isCompany _ _ _).trans (pbd fun _ => ?_)))
    refine x_if.trans (pif_eq ?_ ?_)
    · refine (zrun_b (es := q_X10_told_36) rfl rfl).trans ?_
      refine (t_X10_told_36 _ _ _ _ _ _ _ _ _ _).trans ?_
      exact x_iret
    · refine (t_X10_told_16 _ _ _ _ _ _ _ _).trans ?_
      refine (x_callV rfl rfl rfl rfl).trans ((cl_X10_told_X10_isCompany _ _ _).trans ((gr_X10_isCompany _ _ _).trans (pbd fun _ => ?_)))
      refine x_if.trans (pif_eq ?_ ?_)
      · refine (zrun_b (es := q_X10_told_36) rfl rfl).trans ?_
        refine (t_X10_told_36 _ _ _ _ _ _ _ _ _ _).trans ?_
        exact x_iret
      · refine (t_X10_told_24 _ _ _ _ _ _ _ _).trans ?_
        refine x_if.trans (pif_lt ?_ ?_)
        · refine (zrun_b (es := q_X10_told_36) rfl rfl).trans ?_
          refine (t_X10_told_36 _ _ _ _ _ _ _ _ _ _).trans ?_
          exact x_iret
        · refine (t_X10_told_29 _ _ _ _ _ _ _ _ _).trans ?_
          refine x_icmp.trans (pif_le ?_ ?_)
          · refine (zrun_b (es := q_X10_told_38) rfl rfl).trans ?_
            refine (t_X10_told_38 _ _ _ _ _ _ _ _).trans ?_
            refine (x_aald (N := 6) rfl rfl rfl rfl).trans (pix fun _ => ?_)
            refine (t_X10_told_48 _ _ _ _ _ _ _ _ _).trans ?_
            refine (x_callV rfl rfl rfl rfl).trans ((cl_X10_told_X3_foresee _ _ _).trans ((gr_X3_foresee _ _ _ _).trans (pbd fun _ => ?_)))
            refine (t_X10_told_53 _ _ _ _ _ _ _ _ _ _).trans ?_
            refine x_cut.trans ?_
            exact (zrun_c rfl).trans (glr_X10_told_61 _ _ _ _ _ _ _ _)
          · refine (t_X10_told_36 _ _ _ _ _ _ _ _ _ _).trans ?_
            exact x_iret
noncomputable def g_X10_told {ρ : Type} (σ : zH) (av : List zAV) (q : zH → zAV → Option ρ) : Option ρ := match av with
  | [.inr (.inr (.inl (10, 0))), .inl xa1, .inl xa2, .inl xa3, .inl xa4] => (d_X10_told σ xa1 xa2 xa3 xa4).bind fun p => q p.1 (vI p.2)
  | _ => none
theorem gr_X10_told {ρ : Type} (σ : zH) (xa1 : Int32) (xa2 : Int32) (xa3 : Int32) (xa4 : Int32) (q : zH → zAV → Option ρ) : g_X10_told σ [vR 10 0, vI xa1, vI xa2, vI xa3, vI xa4] q = (d_X10_told σ xa1 xa2 xa3 xa4).bind fun p => q p.1 (vI p.2) := rfl
theorem c_X10_told {ρ : Type} {X : zX} (hX : zHX X) {σ : zH} {av : List zAV} {q : zH → zAV → Option ρ} {r : ρ} (h : g_X10_told σ av q = some r) (hv : ∀ a ∈ av, zval X a) : zcon X 116 σ av q r := by
  unfold g_X10_told at h
  split at h
  · exact zcon_I (n := 116) (ml := 7) (rc := 0) (st := 0) (kd := 10) (np := 4) (by decide +kernel) (by decide) ⟨_, _, rfl, rfl⟩ (Nat.le_of_ble_eq_true rfl) hv h (fun y h1 => (zin_ok (hy_X10_told hX) bk_X10_told (fun t f hf => by
      by_cases e61 : t = 61
      · rw [if_pos e61] at hf; subst e61; cases hf; exact ((fun σ L st r h => s_X10_told_61 hX (s_X10_told_99 hX) zN σ L st r h))
      rw [if_neg e61] at hf
      cases hf) ((e_X10_told _ _ _ _ _).symm.trans h1)))
  · cases h
/-! SleepWaves.harm(III)I -/
def q_X10_harm_30 : List zEnt := zE 30 .ireturn 1 :: []
def q_X10_harm_29 : List zEnt := zEk 29 (.iconst (-1)) 1 (-1) :: q_X10_harm_30
def q_X10_harm_26 : List zEnt := zEa 26 (.if_icmp .le 5) 3 31 :: q_X10_harm_29
def q_X10_harm_24 : List zEnt := zE 24 (.iload_n 3) 1 :: zEk 25 (.iconst 1) 1 1 :: q_X10_harm_26
def q_X10_harm_21 : List zEnt := zEa 21 (.ifCond .lt 8) 3 29 :: q_X10_harm_24
def q_X10_harm_20 : List zEnt := zE 20 (.iload_n 3) 1 :: q_X10_harm_21
def q_X10_harm_17 : List zEnt := zEa 17 (.if_icmp .gt 12) 3 29 :: q_X10_harm_20
def q_X10_harm_13 : List zEnt := zE 13 (.iload_n 2) 1 :: zEk 14 (.sipush 192) 3 192 :: q_X10_harm_17
def q_X10_harm_10 : List zEnt := zEa 10 (.if_icmp .lt 19) 3 29 :: q_X10_harm_13
def q_X10_harm_8 : List zEnt := zE 8 (.iload_n 2) 1 :: zEk 9 (.iconst 1) 1 1 :: q_X10_harm_10
def q_X10_harm_5 : List zEnt := zEa 5 (.ifCond .eq 24) 3 29 :: q_X10_harm_8
def q_X10_harm_2 : List zEnt := zEc 2 (.invokevirtual 122) 3 122 2 50 0 :: q_X10_harm_5
def q_X10_harm_0 : List zEnt := zE 0 (.aload_n 0) 1 :: zE 1 (.iload_n 1) 1 :: q_X10_harm_2
def q_X10_harm_54 : List zEnt := zE 54 .ireturn 1 :: []
def q_X10_harm_53 : List zEnt := zE 53 .iaload 1 :: q_X10_harm_54
def q_X10_harm_45 : List zEnt := zE 45 (.aload_n 0) 1 :: zEf 46 (.getfield 82) 3 10 11 147 (2, 2, 0) :: zEf 49 (.getfield 258) 3 2 4 132 (2, 22, 0) :: zE 52 (.iload_n 3) 1 :: q_X10_harm_53
def q_X10_harm_42 : List zEnt := zEc 42 (.invokevirtual 271) 3 21 3 109 1 :: q_X10_harm_45
def q_X10_harm_41 : List zEnt := zE 41 (.iload_n 2) 1 :: q_X10_harm_42
def q_X10_harm_40 : List zEnt := zE 40 .aaload 1 :: q_X10_harm_41
def q_X10_harm_31 : List zEnt := zE 31 (.aload_n 0) 1 :: zEf 32 (.getfield 82) 3 10 11 147 (2, 2, 0) :: zE 35 (.aload_n 0) 1 :: zEf 36 (.getfield 46) 3 10 4 140 (2, 38, 0) :: zE 39 (.iload_n 1) 1 :: q_X10_harm_40
def b_X10_harm : List (Nat × List zEnt) := [(0, q_X10_harm_0), (29, q_X10_harm_29), (31, q_X10_harm_31)]
theorem bk_X10_harm : zchB 117 b_X10_harm = true := by decide +kernel
noncomputable def cc_X10_harm {ρ : Type} : Nat → zH → List zAV → (zH → zAV → Option ρ) → Option ρ := fun n σ av q => if n = 122 then g_X10_isLaw σ av q else if n = 21 then g_X2_findHarm σ av q else none
theorem cs_X10_harm {ρ : Type} {X : zX} (hX : zHX X) : zCS X (cc_X10_harm (ρ := ρ)) := by
  intro n σ av q r h hv
  unfold cc_X10_harm at h
  by_cases e_X10_isLaw : n = 122
  · rw [if_pos e_X10_isLaw] at h
    subst e_X10_isLaw
    exact c_X10_isLaw hX h hv
  rw [if_neg e_X10_isLaw] at h
  by_cases e_X2_findHarm : n = 21
  · rw [if_pos e_X2_findHarm] at h
    subst e_X2_findHarm
    exact c_X2_findHarm hX h hv
  rw [if_neg e_X2_findHarm] at h
  cases h
theorem cl_X10_harm_X10_isLaw {ρ : Type} (σ : zH) (av : List zAV) (q : zH → zAV → Option ρ) : cc_X10_harm 122 σ av q = g_X10_isLaw σ av q := rfl
theorem cl_X10_harm_X2_findHarm {ρ : Type} (σ : zH) (av : List zAV) (q : zH → zAV → Option ρ) : cc_X10_harm 21 σ av q = g_X2_findHarm σ av q := rfl
theorem hy_X10_harm {ρ : Type} {X : zX} (hX : zHX X) : zHY X 117 (cc_X10_harm (ρ := ρ)) := zHX.hY hX (cs_X10_harm hX) (zmok_all 117 (by decide))
theorem t_X10_harm_0 {G : Nat → zH → List zAV → List zAV → Option (zH × Int32)} (es : List zEnt) (σ : zH) (x1 : Int32) (x2 : Int32) (x3 : Int32)   : zev cc_X10_harm G 0 krI (zE 0 (.aload_n 0) 1 :: zE 1 (.iload_n 1) 1 :: es) σ [vR 10 0, vI x1, vI x2, vI x3] [] = zev cc_X10_harm G 0 krI es σ [vR 10 0, vI x1, vI x2, vI x3] [vI x1, vR 10 0] := rfl
theorem t_X10_harm_8 {G : Nat → zH → List zAV → List zAV → Option (zH × Int32)} (es : List zEnt) (σ : zH) (x1 : Int32) (x2 : Int32) (x3 : Int32)  (w9 : Int32) : zev cc_X10_harm G 0 krI (zE 8 (.iload_n 2) 1 :: zEk 9 (.iconst 1) 1 w9 :: es) σ [vR 10 0, vI x1, vI x2, vI x3] [] = zev cc_X10_harm G 0 krI es σ [vR 10 0, vI x1, vI x2, vI x3] [vI w9, vI x2] := rfl
theorem t_X10_harm_13 {G : Nat → zH → List zAV → List zAV → Option (zH × Int32)} (es : List zEnt) (σ : zH) (x1 : Int32) (x2 : Int32) (x3 : Int32)  (w14 : Int32) : zev cc_X10_harm G 0 krI (zE 13 (.iload_n 2) 1 :: zEk 14 (.sipush 192) 3 w14 :: es) σ [vR 10 0, vI x1, vI x2, vI x3] [] = zev cc_X10_harm G 0 krI es σ [vR 10 0, vI x1, vI x2, vI x3] [vI w14, vI x2] := rfl
theorem t_X10_harm_20 {G : Nat → zH → List zAV → List zAV → Option (zH × Int32)} (es : List zEnt) (σ : zH) (x1 : Int32) (x2 : Int32) (x3 : Int32)   : zev cc_X10_harm G 0 krI (zE 20 (.iload_n 3) 1 :: es) σ [vR 10 0, vI x1, vI x2, vI x3] [] = zev cc_X10_harm G 0 krI es σ [vR 10 0, vI x1, vI x2, vI x3] [vI x3] := rfl
theorem t_X10_harm_24 {G : Nat → zH → List zAV → List zAV → Option (zH × Int32)} (es : List zEnt) (σ : zH) (x1 : Int32) (x2 : Int32) (x3 : Int32)  (w25 : Int32) : zev cc_X10_harm G 0 krI (zE 24 (.iload_n 3) 1 :: zEk 25 (.iconst 1) 1 w25 :: es) σ [vR 10 0, vI x1, vI x2, vI x3] [] = zev cc_X10_harm G 0 krI es σ [vR 10 0, vI x1, vI x2, vI x3] [vI w25, vI x3] := rfl
theorem t_X10_harm_29 {G : Nat → zH → List zAV → List zAV → Option (zH × Int32)} (es : List zEnt) (σ : zH)  (y0 : zAV) (y1 : zAV) (y2 : zAV) (y3 : zAV) (w29 : Int32) : zev cc_X10_harm G 0 krI (zEk 29 (.iconst (-1)) 1 w29 :: es) σ [y0, y1, y2, y3] [] = zev cc_X10_harm G 0 krI es σ [y0, y1, y2, y3] [vI w29] := rfl
theorem t_X10_harm_31 {G : Nat → zH → List zAV → List zAV → Option (zH × Int32)} (es : List zEnt) (σ : zH) (x1 : Int32) (x2 : Int32) (x3 : Int32)   : zev cc_X10_harm G 0 krI (zE 31 (.aload_n 0) 1 :: zEf 32 (.getfield 82) 3 10 11 147 (2, 2, 0) :: zE 35 (.aload_n 0) 1 :: zEf 36 (.getfield 46) 3 10 4 140 (2, 38, 0) :: zE 39 (.iload_n 1) 1 :: es) σ [vR 10 0, vI x1, vI x2, vI x3] [] = zev cc_X10_harm G 0 krI es σ [vR 10 0, vI x1, vI x2, vI x3] [vI x1, vR 38 0, vR 2 0] := rfl
theorem t_X10_harm_41 {G : Nat → zH → List zAV → List zAV → Option (zH × Int32)} (es : List zEnt) (σ : zH) (x2 : Int32) (x3 : Int32) (is1 : Nat) (y1 : zAV)  : zev cc_X10_harm G 0 krI (zE 41 (.iload_n 2) 1 :: es) σ [vR 10 0, y1, vI x2, vI x3] [vR 4 is1, vR 2 0] = zev cc_X10_harm G 0 krI es σ [vR 10 0, y1, vI x2, vI x3] [vI x2, vR 4 is1, vR 2 0] := rfl
theorem t_X10_harm_45 {G : Nat → zH → List zAV → List zAV → Option (zH × Int32)} (es : List zEnt) (σ : zH) (x3 : Int32) (y1 : zAV) (y2 : zAV)  : zev cc_X10_harm G 0 krI (zE 45 (.aload_n 0) 1 :: zEf 46 (.getfield 82) 3 10 11 147 (2, 2, 0) :: zEf 49 (.getfield 258) 3 2 4 132 (2, 22, 0) :: zE 52 (.iload_n 3) 1 :: es) σ [vR 10 0, y1, y2, vI x3] [] = zev cc_X10_harm G 0 krI es σ [vR 10 0, y1, y2, vI x3] [vI x3, vR 22 0] := rfl
noncomputable def d_X10_harm (σ : zH) (xa1 : Int32) (xa2 : Int32) (xa3 : Int32) : Option (zH × Int32) :=
  (d_X10_isLaw σ xa1).bind fun p1 =>
  if p1.2 = 0 then
    some (p1.1, (-1 : Int32))
  else
    if xa2 < (1 : Int32) then
      some (p1.1, (-1 : Int32))
    else
      if (192 : Int32) < xa2 then
        some (p1.1, (-1 : Int32))
      else
        if xa3 < 0 then
          some (p1.1, (-1 : Int32))
        else
          if (1 : Int32) < xa3 then
            some (p1.1, (-1 : Int32))
          else
            ix xa1 6 fun j2 =>
            (d_X2_findHarm p1.1 (0 + j2) xa2).bind fun σ3 =>
            ix xa3 3 fun j4 =>
            some (σ3, (σ3.1 22 0 j4))
theorem e_X10_harm (σ : zH) (xa1 : Int32) (xa2 : Int32) (xa3 : Int32) : d_X10_harm σ xa1 xa2 xa3 = zin cc_X10_harm (fun t => none) 0 krI b_X10_harm 0 σ [vR 10 0, vI xa1, vI xa2, vI xa3] [] := by
  unfold d_X10_harm
  refine Eq.symm ((zin_b (es := q_X10_harm_0) rfl).trans ?_)
  refine (t_X10_harm_0 _ _ _ _ _).trans ?_
  refine (x_callV rfl rfl rfl rfl).trans ((cl_X10_harm_X10_isLaw _ _ _).trans ((gr_X10_isLaw _ _ _).trans (pbd fun _ => ?_)))
  refine x_if.trans (pif_eq ?_ ?_)
  · refine (zrun_b (es := q_X10_harm_29) rfl rfl).trans ?_
    refine (t_X10_harm_29 _ _ _ _ _ _ _).trans ?_
    exact x_iret
  · refine (t_X10_harm_8 _ _ _ _ _ _).trans ?_
    refine x_icmp.trans (pif_lt ?_ ?_)
    · refine (zrun_b (es := q_X10_harm_29) rfl rfl).trans ?_
      refine (t_X10_harm_29 _ _ _ _ _ _ _).trans ?_
      exact x_iret
    · refine (t_X10_harm_13 _ _ _ _ _ _).trans ?_
      refine x_icmp.trans (pif_gt ?_ ?_)
      · refine (zrun_b (es := q_X10_harm_29) rfl rfl).trans ?_
        refine (t_X10_harm_29 _ _ _ _ _ _ _).trans ?_
        exact x_iret
      · refine (t_X10_harm_20 _ _ _ _ _).trans ?_
        refine x_if.trans (pif_lt ?_ ?_)
        · refine (zrun_b (es := q_X10_harm_29) rfl rfl).trans ?_
          refine (t_X10_harm_29 _ _ _ _ _ _ _).trans ?_
          exact x_iret
        · refine (t_X10_harm_24 _ _ _ _ _ _).trans ?_
          refine x_icmp.trans (pif_le ?_ ?_)
          · refine (zrun_b (es := q_X10_harm_31) rfl rfl).trans ?_
            refine (t_X10_harm_31 _ _ _ _ _).trans ?_
            refine (x_aald (N := 6) rfl rfl rfl rfl).trans (pix fun _ => ?_)
            refine (t_X10_harm_41 _ _ _ _ _ _).trans ?_
            refine (x_callV rfl rfl rfl rfl).trans ((cl_X10_harm_X2_findHarm _ _ _).trans ((gr_X2_findHarm _ _ _ _).trans (pbd fun _ => ?_)))
            refine (t_X10_harm_45 _ _ _ _ _).trans ?_
            refine (x_iald (N := 3) rfl rfl).trans (pix fun _ => ?_)
            exact x_iret
          · refine (t_X10_harm_29 _ _ _ _ _ _ _).trans ?_
            exact x_iret
noncomputable def g_X10_harm {ρ : Type} (σ : zH) (av : List zAV) (q : zH → zAV → Option ρ) : Option ρ := match av with
  | [.inr (.inr (.inl (10, 0))), .inl xa1, .inl xa2, .inl xa3] => (d_X10_harm σ xa1 xa2 xa3).bind fun p => q p.1 (vI p.2)
  | _ => none
theorem gr_X10_harm {ρ : Type} (σ : zH) (xa1 : Int32) (xa2 : Int32) (xa3 : Int32) (q : zH → zAV → Option ρ) : g_X10_harm σ [vR 10 0, vI xa1, vI xa2, vI xa3] q = (d_X10_harm σ xa1 xa2 xa3).bind fun p => q p.1 (vI p.2) := rfl
theorem c_X10_harm {ρ : Type} {X : zX} (hX : zHX X) {σ : zH} {av : List zAV} {q : zH → zAV → Option ρ} {r : ρ} (h : g_X10_harm σ av q = some r) (hv : ∀ a ∈ av, zval X a) : zcon X 117 σ av q r := by
  unfold g_X10_harm at h
  split at h
  · exact zcon_I (n := 117) (ml := 4) (rc := 0) (st := 0) (kd := 10) (np := 3) (by decide +kernel) (by decide) ⟨_, _, rfl, rfl⟩ (Nat.le_of_ble_eq_true rfl) hv h (fun y h1 => (zin_ok (hy_X10_harm hX) bk_X10_harm (fun t f hf => by
      cases hf) ((e_X10_harm _ _ _ _).symm.trans h1)))
  · cases h
/-! SleepWaves.fair(III)I -/
def q_X10_fair_42 : List zEnt := zE 42 .ireturn 1 :: []
def q_X10_fair_41 : List zEnt := zEk 41 (.iconst (-1)) 1 (-1) :: q_X10_fair_42
def q_X10_fair_38 : List zEnt := zEa 38 (.ifCond .ne 5) 3 43 :: q_X10_fair_41
def q_X10_fair_28 : List zEnt := zE 28 (.aload_n 0) 1 :: zEf 29 (.getfield 54) 3 10 6 142 (2, 8, 0) :: zEf 32 (.getfield 176) 3 8 0 87 (1, 0, 1) :: zEf 35 (.getfield 112) 3 0 0 33 (0, 0, 0) :: q_X10_fair_38
def q_X10_fair_25 : List zEnt := zEa 25 (.if_icmp .gt 16) 3 41 :: q_X10_fair_28
def q_X10_fair_23 : List zEnt := zE 23 (.iload_n 3) 1 :: zEk 24 (.iconst 2) 1 2 :: q_X10_fair_25
def q_X10_fair_20 : List zEnt := zEa 20 (.ifCond .lt 21) 3 41 :: q_X10_fair_23
def q_X10_fair_19 : List zEnt := zE 19 (.iload_n 3) 1 :: q_X10_fair_20
def q_X10_fair_16 : List zEnt := zEa 16 (.if_icmp .gt 25) 3 41 :: q_X10_fair_19
def q_X10_fair_12 : List zEnt := zE 12 (.iload_n 2) 1 :: zEk 13 (.sipush 192) 3 192 :: q_X10_fair_16
def q_X10_fair_9 : List zEnt := zEa 9 (.ifCond .lt 32) 3 41 :: q_X10_fair_12
def q_X10_fair_8 : List zEnt := zE 8 (.iload_n 2) 1 :: q_X10_fair_9
def q_X10_fair_5 : List zEnt := zEa 5 (.ifCond .eq 36) 3 41 :: q_X10_fair_8
def q_X10_fair_2 : List zEnt := zEc 2 (.invokevirtual 122) 3 122 2 50 0 :: q_X10_fair_5
def q_X10_fair_0 : List zEnt := zE 0 (.aload_n 0) 1 :: zE 1 (.iload_n 1) 1 :: q_X10_fair_2
def q_X10_fair_66 : List zEnt := zE 66 .ireturn 1 :: []
def q_X10_fair_65 : List zEnt := zE 65 .iaload 1 :: q_X10_fair_66
def q_X10_fair_57 : List zEnt := zE 57 (.aload_n 0) 1 :: zEf 58 (.getfield 82) 3 10 11 147 (2, 2, 0) :: zEf 61 (.getfield 258) 3 2 4 132 (2, 22, 0) :: zE 64 (.iload_n 3) 1 :: q_X10_fair_65
def q_X10_fair_54 : List zEnt := zEc 54 (.invokevirtual 274) 3 22 3 111 1 :: q_X10_fair_57
def q_X10_fair_53 : List zEnt := zE 53 (.iload_n 2) 1 :: q_X10_fair_54
def q_X10_fair_52 : List zEnt := zE 52 .aaload 1 :: q_X10_fair_53
def q_X10_fair_43 : List zEnt := zE 43 (.aload_n 0) 1 :: zEf 44 (.getfield 82) 3 10 11 147 (2, 2, 0) :: zE 47 (.aload_n 0) 1 :: zEf 48 (.getfield 46) 3 10 4 140 (2, 38, 0) :: zE 51 (.iload_n 1) 1 :: q_X10_fair_52
def b_X10_fair : List (Nat × List zEnt) := [(0, q_X10_fair_0), (41, q_X10_fair_41), (43, q_X10_fair_43)]
theorem bk_X10_fair : zchB 118 b_X10_fair = true := by decide +kernel
noncomputable def cc_X10_fair {ρ : Type} : Nat → zH → List zAV → (zH → zAV → Option ρ) → Option ρ := fun n σ av q => if n = 122 then g_X10_isLaw σ av q else if n = 22 then g_X2_findFair σ av q else none
theorem cs_X10_fair {ρ : Type} {X : zX} (hX : zHX X) : zCS X (cc_X10_fair (ρ := ρ)) := by
  intro n σ av q r h hv
  unfold cc_X10_fair at h
  by_cases e_X10_isLaw : n = 122
  · rw [if_pos e_X10_isLaw] at h
    subst e_X10_isLaw
    exact c_X10_isLaw hX h hv
  rw [if_neg e_X10_isLaw] at h
  by_cases e_X2_findFair : n = 22
  · rw [if_pos e_X2_findFair] at h
    subst e_X2_findFair
    exact c_X2_findFair hX h hv
  rw [if_neg e_X2_findFair] at h
  cases h
theorem cl_X10_fair_X10_isLaw {ρ : Type} (σ : zH) (av : List zAV) (q : zH → zAV → Option ρ) : cc_X10_fair 122 σ av q = g_X10_isLaw σ av q := rfl
theorem cl_X10_fair_X2_findFair {ρ : Type} (σ : zH) (av : List zAV) (q : zH → zAV → Option ρ) : cc_X10_fair 22 σ av q = g_X2_findFair σ av q := rfl
theorem hy_X10_fair {ρ : Type} {X : zX} (hX : zHX X) : zHY X 118 (cc_X10_fair (ρ := ρ)) := zHX.hY hX (cs_X10_fair hX) (zmok_all 118 (by decide))
theorem t_X10_fair_0 {G : Nat → zH → List zAV → List zAV → Option (zH × Int32)} (es : List zEnt) (σ : zH) (x1 : Int32) (x2 : Int32) (x3 : Int32)   : zev cc_X10_fair G 0 krI (zE 0 (.aload_n 0) 1 :: zE 1 (.iload_n 1) 1 :: es) σ [vR 10 0, vI x1, vI x2, vI x3] [] = zev cc_X10_fair G 0 krI es σ [vR 10 0, vI x1, vI x2, vI x3] [vI x1, vR 10 0] := rfl
theorem t_X10_fair_8 {G : Nat → zH → List zAV → List zAV → Option (zH × Int32)} (es : List zEnt) (σ : zH) (x1 : Int32) (x2 : Int32) (x3 : Int32)   : zev cc_X10_fair G 0 krI (zE 8 (.iload_n 2) 1 :: es) σ [vR 10 0, vI x1, vI x2, vI x3] [] = zev cc_X10_fair G 0 krI es σ [vR 10 0, vI x1, vI x2, vI x3] [vI x2] := rfl
theorem t_X10_fair_12 {G : Nat → zH → List zAV → List zAV → Option (zH × Int32)} (es : List zEnt) (σ : zH) (x1 : Int32) (x2 : Int32) (x3 : Int32)  (w13 : Int32) : zev cc_X10_fair G 0 krI (zE 12 (.iload_n 2) 1 :: zEk 13 (.sipush 192) 3 w13 :: es) σ [vR 10 0, vI x1, vI x2, vI x3] [] = zev cc_X10_fair G 0 krI es σ [vR 10 0, vI x1, vI x2, vI x3] [vI w13, vI x2] := rfl
theorem t_X10_fair_19 {G : Nat → zH → List zAV → List zAV → Option (zH × Int32)} (es : List zEnt) (σ : zH) (x1 : Int32) (x2 : Int32) (x3 : Int32)   : zev cc_X10_fair G 0 krI (zE 19 (.iload_n 3) 1 :: es) σ [vR 10 0, vI x1, vI x2, vI x3] [] = zev cc_X10_fair G 0 krI es σ [vR 10 0, vI x1, vI x2, vI x3] [vI x3] := rfl
theorem t_X10_fair_23 {G : Nat → zH → List zAV → List zAV → Option (zH × Int32)} (es : List zEnt) (σ : zH) (x1 : Int32) (x2 : Int32) (x3 : Int32)  (w24 : Int32) : zev cc_X10_fair G 0 krI (zE 23 (.iload_n 3) 1 :: zEk 24 (.iconst 2) 1 w24 :: es) σ [vR 10 0, vI x1, vI x2, vI x3] [] = zev cc_X10_fair G 0 krI es σ [vR 10 0, vI x1, vI x2, vI x3] [vI w24, vI x3] := rfl
theorem t_X10_fair_28 {G : Nat → zH → List zAV → List zAV → Option (zH × Int32)} (es : List zEnt) (σ : zH) (x1 : Int32) (x2 : Int32) (x3 : Int32)   : zev cc_X10_fair G 0 krI (zE 28 (.aload_n 0) 1 :: zEf 29 (.getfield 54) 3 10 6 142 (2, 8, 0) :: zEf 32 (.getfield 176) 3 8 0 87 (1, 0, 1) :: zEf 35 (.getfield 112) 3 0 0 33 (0, 0, 0) :: es) σ [vR 10 0, vI x1, vI x2, vI x3] [] = zev cc_X10_fair G 0 krI es σ [vR 10 0, vI x1, vI x2, vI x3] [vI (σ.1 0 (0 + 1) 0)] := rfl
theorem t_X10_fair_41 {G : Nat → zH → List zAV → List zAV → Option (zH × Int32)} (es : List zEnt) (σ : zH)  (y0 : zAV) (y1 : zAV) (y2 : zAV) (y3 : zAV) (w41 : Int32) : zev cc_X10_fair G 0 krI (zEk 41 (.iconst (-1)) 1 w41 :: es) σ [y0, y1, y2, y3] [] = zev cc_X10_fair G 0 krI es σ [y0, y1, y2, y3] [vI w41] := rfl
theorem t_X10_fair_43 {G : Nat → zH → List zAV → List zAV → Option (zH × Int32)} (es : List zEnt) (σ : zH) (x1 : Int32) (x2 : Int32) (x3 : Int32)   : zev cc_X10_fair G 0 krI (zE 43 (.aload_n 0) 1 :: zEf 44 (.getfield 82) 3 10 11 147 (2, 2, 0) :: zE 47 (.aload_n 0) 1 :: zEf 48 (.getfield 46) 3 10 4 140 (2, 38, 0) :: zE 51 (.iload_n 1) 1 :: es) σ [vR 10 0, vI x1, vI x2, vI x3] [] = zev cc_X10_fair G 0 krI es σ [vR 10 0, vI x1, vI x2, vI x3] [vI x1, vR 38 0, vR 2 0] := rfl
theorem t_X10_fair_53 {G : Nat → zH → List zAV → List zAV → Option (zH × Int32)} (es : List zEnt) (σ : zH) (x2 : Int32) (x3 : Int32) (is1 : Nat) (y1 : zAV)  : zev cc_X10_fair G 0 krI (zE 53 (.iload_n 2) 1 :: es) σ [vR 10 0, y1, vI x2, vI x3] [vR 4 is1, vR 2 0] = zev cc_X10_fair G 0 krI es σ [vR 10 0, y1, vI x2, vI x3] [vI x2, vR 4 is1, vR 2 0] := rfl
theorem t_X10_fair_57 {G : Nat → zH → List zAV → List zAV → Option (zH × Int32)} (es : List zEnt) (σ : zH) (x3 : Int32) (y1 : zAV) (y2 : zAV)  : zev cc_X10_fair G 0 krI (zE 57 (.aload_n 0) 1 :: zEf 58 (.getfield 82) 3 10 11 147 (2, 2, 0) :: zEf 61 (.getfield 258) 3 2 4 132 (2, 22, 0) :: zE 64 (.iload_n 3) 1 :: es) σ [vR 10 0, y1, y2, vI x3] [] = zev cc_X10_fair G 0 krI es σ [vR 10 0, y1, y2, vI x3] [vI x3, vR 22 0] := rfl
noncomputable def d_X10_fair (σ : zH) (xa1 : Int32) (xa2 : Int32) (xa3 : Int32) : Option (zH × Int32) :=
  (d_X10_isLaw σ xa1).bind fun p1 =>
  if p1.2 = 0 then
    some (p1.1, (-1 : Int32))
  else
    if xa2 < 0 then
      some (p1.1, (-1 : Int32))
    else
      if (192 : Int32) < xa2 then
        some (p1.1, (-1 : Int32))
      else
        if xa3 < 0 then
          some (p1.1, (-1 : Int32))
        else
          if (2 : Int32) < xa3 then
            some (p1.1, (-1 : Int32))
          else
            if (p1.1.1 0 (0 + 1) 0) = 0 then
              some (p1.1, (-1 : Int32))
            else
              ix xa1 6 fun j2 =>
              (d_X2_findFair p1.1 (0 + j2) xa2).bind fun σ3 =>
              ix xa3 3 fun j4 =>
              some (σ3, (σ3.1 22 0 j4))
theorem e_X10_fair (σ : zH) (xa1 : Int32) (xa2 : Int32) (xa3 : Int32) : d_X10_fair σ xa1 xa2 xa3 = zin cc_X10_fair (fun t => none) 0 krI b_X10_fair 0 σ [vR 10 0, vI xa1, vI xa2, vI xa3] [] := by
  unfold d_X10_fair
  refine Eq.symm ((zin_b (es := q_X10_fair_0) rfl).trans ?_)
  refine (t_X10_fair_0 _ _ _ _ _).trans ?_
  refine (x_callV rfl rfl rfl rfl).trans ((cl_X10_fair_X10_isLaw _ _ _).trans ((gr_X10_isLaw _ _ _).trans (pbd fun _ => ?_)))
  refine x_if.trans (pif_eq ?_ ?_)
  · refine (zrun_b (es := q_X10_fair_41) rfl rfl).trans ?_
    refine (t_X10_fair_41 _ _ _ _ _ _ _).trans ?_
    exact x_iret
  · refine (t_X10_fair_8 _ _ _ _ _).trans ?_
    refine x_if.trans (pif_lt ?_ ?_)
    · refine (zrun_b (es := q_X10_fair_41) rfl rfl).trans ?_
      refine (t_X10_fair_41 _ _ _ _ _ _ _).trans ?_
      exact x_iret
    · refine (t_X10_fair_12 _ _ _ _ _ _).trans ?_
      refine x_icmp.trans (pif_gt ?_ ?_)
      · refine (zrun_b (es := q_X10_fair_41) rfl rfl).trans ?_
        refine (t_X10_fair_41 _ _ _ _ _ _ _).trans ?_
        exact x_iret
      · refine (t_X10_fair_19 _ _ _ _ _).trans ?_
        refine x_if.trans (pif_lt ?_ ?_)
        · refine (zrun_b (es := q_X10_fair_41) rfl rfl).trans ?_
          refine (t_X10_fair_41 _ _ _ _ _ _ _).trans ?_
          exact x_iret
        · refine (t_X10_fair_23 _ _ _ _ _ _).trans ?_
          refine x_icmp.trans (pif_gt ?_ ?_)
          · refine (zrun_b (es := q_X10_fair_41) rfl rfl).trans ?_
            refine (t_X10_fair_41 _ _ _ _ _ _ _).trans ?_
            exact x_iret
          · refine (t_X10_fair_28 _ _ _ _ _).trans ?_
            refine x_if.trans (pif_ne ?_ ?_)
            · refine (zrun_b (es := q_X10_fair_43) rfl rfl).trans ?_
              refine (t_X10_fair_43 _ _ _ _ _).trans ?_
              refine (x_aald (N := 6) rfl rfl rfl rfl).trans (pix fun _ => ?_)
              refine (t_X10_fair_53 _ _ _ _ _ _).trans ?_
              refine (x_callV rfl rfl rfl rfl).trans ((cl_X10_fair_X2_findFair _ _ _).trans ((gr_X2_findFair _ _ _ _).trans (pbd fun _ => ?_)))
              refine (t_X10_fair_57 _ _ _ _ _).trans ?_
              refine (x_iald (N := 3) rfl rfl).trans (pix fun _ => ?_)
              exact x_iret
            · refine (t_X10_fair_41 _ _ _ _ _ _ _).trans ?_
              exact x_iret
noncomputable def g_X10_fair {ρ : Type} (σ : zH) (av : List zAV) (q : zH → zAV → Option ρ) : Option ρ := match av with
  | [.inr (.inr (.inl (10, 0))), .inl xa1, .inl xa2, .inl xa3] => (d_X10_fair σ xa1 xa2 xa3).bind fun p => q p.1 (vI p.2)
  | _ => none
theorem gr_X10_fair {ρ : Type} (σ : zH) (xa1 : Int32) (xa2 : Int32) (xa3 : Int32) (q : zH → zAV → Option ρ) : g_X10_fair σ [vR 10 0, vI xa1, vI xa2, vI xa3] q = (d_X10_fair σ xa1 xa2 xa3).bind fun p => q p.1 (vI p.2) := rfl
theorem c_X10_fair {ρ : Type} {X : zX} (hX : zHX X) {σ : zH} {av : List zAV} {q : zH → zAV → Option ρ} {r : ρ} (h : g_X10_fair σ av q = some r) (hv : ∀ a ∈ av, zval X a) : zcon X 118 σ av q r := by
  unfold g_X10_fair at h
  split at h
  · exact zcon_I (n := 118) (ml := 4) (rc := 0) (st := 0) (kd := 10) (np := 3) (by decide +kernel) (by decide) ⟨_, _, rfl, rfl⟩ (Nat.le_of_ble_eq_true rfl) hv h (fun y h1 => (zin_ok (hy_X10_fair hX) bk_X10_fair (fun t f hf => by
      cases hf) ((e_X10_fair _ _ _ _).symm.trans h1)))
  · cases h
