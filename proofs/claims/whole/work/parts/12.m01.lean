/-! SleepWaves$CampReader.readWatch()V -/
def q_X1_readWatch_11 : List zEnt := zE 11 .return_ 1 :: []
def q_X1_readWatch_8 : List zEnt := zEa 8 (.ifCond .eq 4) 3 12 :: q_X1_readWatch_11
def q_X1_readWatch_5 : List zEnt := zEc 5 (.invokevirtual 88) 3 9 2 11 0 :: q_X1_readWatch_8
def q_X1_readWatch_0 : List zEnt := zE 0 (.aload_n 0) 1 :: zE 1 (.aload_n 0) 1 :: zEf 2 (.getfield 24) 3 1 3 20 (0, 1, 0) :: q_X1_readWatch_5
def q_X1_readWatch_32 : List zEnt := zE 32 .return_ 1 :: []
def q_X1_readWatch_29 : List zEnt := zEf 29 (.putfield 130) 3 0 12 74 (0, 0, 0) :: q_X1_readWatch_32
def q_X1_readWatch_26 : List zEnt := zEc 26 (.invokevirtual 96) 3 14 3 13 0 :: q_X1_readWatch_29
def q_X1_readWatch_21 : List zEnt := zE 21 (.aload_n 0) 1 :: zEk 22 (.iconst 0) 1 0 :: zEk 23 (.sipush 1200) 3 1200 :: q_X1_readWatch_26
def q_X1_readWatch_18 : List zEnt := zEf 18 (.getfield 15) 3 1 1 18 (3, 0, 0) :: q_X1_readWatch_21
def q_X1_readWatch_17 : List zEnt := zE 17 (.aload_n 0) 1 :: q_X1_readWatch_18
def q_X1_readWatch_14 : List zEnt := zEf 14 (.putfield 24) 3 1 3 20 (0, 1, 0) :: q_X1_readWatch_17
def q_X1_readWatch_12 : List zEnt := zE 12 (.aload_n 0) 1 :: zEk 13 (.iconst 1) 1 1 :: q_X1_readWatch_14
def b_X1_readWatch : List (Nat × List zEnt) := [(0, q_X1_readWatch_0), (12, q_X1_readWatch_12)]
theorem bk_X1_readWatch : zchB 13 b_X1_readWatch = true := by decide +kernel
noncomputable def cc_X1_readWatch {ρ : Type} : Nat → zH → List zAV → (zH → zAV → Option ρ) → Option ρ := fun n σ av q => if n = 9 then g_X1_isOneTooMany σ av q else if n = 14 then g_X1_number σ av q else none
theorem cs_X1_readWatch {ρ : Type} {X : zX} (hX : zHX X) : zCS X (cc_X1_readWatch (ρ := ρ)) := by
  intro n σ av q r h hv
  unfold cc_X1_readWatch at h
  by_cases e_X1_isOneTooMany : n = 9
  · rw [if_pos e_X1_isOneTooMany] at h
    subst e_X1_isOneTooMany
    exact c_X1_isOneTooMany hX h hv
  rw [if_neg e_X1_isOneTooMany] at h
  by_cases e_X1_number : n = 14
  · rw [if_pos e_X1_number] at h
    subst e_X1_number
    exact c_X1_number hX h hv
  rw [if_neg e_X1_number] at h
  cases h
theorem cl_X1_readWatch_X1_isOneTooMany {ρ : Type} (σ : zH) (av : List zAV) (q : zH → zAV → Option ρ) : cc_X1_readWatch 9 σ av q = g_X1_isOneTooMany σ av q := rfl
theorem cl_X1_readWatch_X1_number {ρ : Type} (σ : zH) (av : List zAV) (q : zH → zAV → Option ρ) : cc_X1_readWatch 14 σ av q = g_X1_number σ av q := rfl
theorem hy_X1_readWatch {ρ : Type} {X : zX} (hX : zHX X) : zHY X 13 (cc_X1_readWatch (ρ := ρ)) := zHX.hY hX (cs_X1_readWatch hX) (zmok_all 13 (by decide))
theorem t_X1_readWatch_0 {G : Nat → zH → List zAV → List zAV → Option zH} (es : List zEnt) (σ : zH)    : zev cc_X1_readWatch G 9 krV (zE 0 (.aload_n 0) 1 :: zE 1 (.aload_n 0) 1 :: zEf 2 (.getfield 24) 3 1 3 20 (0, 1, 0) :: es) σ [vR 1 0] [] = zev cc_X1_readWatch G 9 krV es σ [vR 1 0] [vI (σ.1 1 0 3), vR 1 0] := rfl
theorem t_X1_readWatch_12 {G : Nat → zH → List zAV → List zAV → Option zH} (es : List zEnt) (σ : zH)   (w13 : Int32) : zev cc_X1_readWatch G 9 krV (zE 12 (.aload_n 0) 1 :: zEk 13 (.iconst 1) 1 w13 :: es) σ [vR 1 0] [] = zev cc_X1_readWatch G 9 krV es σ [vR 1 0] [vI w13, vR 1 0] := rfl
theorem t_X1_readWatch_17 {G : Nat → zH → List zAV → List zAV → Option zH} (es : List zEnt) (σ : zH)    : zev cc_X1_readWatch G 9 krV (zE 17 (.aload_n 0) 1 :: es) σ [vR 1 0] [] = zev cc_X1_readWatch G 9 krV es σ [vR 1 0] [vR 1 0] := rfl
theorem t_X1_readWatch_21 {G : Nat → zH → List zAV → List zAV → Option zH} (es : List zEnt) (σ : zH) (is0 : Nat)  (w22 : Int32) (w23 : Int32) : zev cc_X1_readWatch G 9 krV (zE 21 (.aload_n 0) 1 :: zEk 22 (.iconst 0) 1 w22 :: zEk 23 (.sipush 1200) 3 w23 :: es) σ [vR 1 0] [vR 0 is0] = zev cc_X1_readWatch G 9 krV es σ [vR 1 0] [vI w23, vI w22, vR 1 0, vR 0 is0] := rfl
noncomputable def d_X1_readWatch (σ : zH)  : Option zH :=
  (d_X1_isOneTooMany σ (σ.1 1 0 3)).bind fun p1 =>
  if p1.2 = 0 then
    zlet (uI p1.1 1 0 3 (1 : Int32)) fun σ2 =>
    ix (σ2.1 1 0 1) 9 fun j3 =>
    (d_X1_number σ2 (0 : Int32) (1200 : Int32)).bind fun p4 =>
    zlet (uI p4.1 0 j3 12 p4.2) fun σ5 =>
    some σ5
  else
    some p1.1
theorem e_X1_readWatch (σ : zH)  : d_X1_readWatch σ = zin cc_X1_readWatch (fun t => none) 9 krV b_X1_readWatch 0 σ [vR 1 0] [] := by
  unfold d_X1_readWatch
  refine Eq.symm ((zin_b (es := q_X1_readWatch_0) rfl).trans ?_)
  refine (t_X1_readWatch_0 _ _).trans ?_
  refine (x_callV rfl rfl rfl rfl).trans ((cl_X1_readWatch_X1_isOneTooMany _ _ _).trans ((gr_X1_isOneTooMany _ _ _).trans (pbd fun _ => ?_)))
  refine x_if.trans (pif_eq ?_ ?_)
  · refine (zrun_b (es := q_X1_readWatch_12) rfl rfl).trans ?_
    refine (t_X1_readWatch_12 _ _ _).trans ?_
    refine (x_pf1.trans (tv_l (by decide +kernel))).trans (plt fun _ => ?_)
    refine (t_X1_readWatch_17 _ _).trans ?_
    refine x_gf3.trans (pix fun _ => ?_)
    refine (t_X1_readWatch_21 _ _ _ _ _).trans ?_
    refine (x_callV rfl rfl rfl rfl).trans ((cl_X1_readWatch_X1_number _ _ _).trans ((gr_X1_number _ _ _ _).trans (pbd fun _ => ?_)))
    refine x_pf0.trans (plt fun _ => ?_)
    exact x_vret
  · exact x_vret
noncomputable def g_X1_readWatch {ρ : Type} (σ : zH) (av : List zAV) (q : zH → zAV → Option ρ) : Option ρ := match av with
  | [.inr (.inr (.inl (1, 0)))] => (d_X1_readWatch σ).bind fun σ => q σ vU
  | _ => none
theorem gr_X1_readWatch {ρ : Type} (σ : zH)  (q : zH → zAV → Option ρ) : g_X1_readWatch σ [vR 1 0] q = (d_X1_readWatch σ).bind fun σ => q σ vU := rfl
theorem c_X1_readWatch {ρ : Type} {X : zX} (hX : zHX X) {σ : zH} {av : List zAV} {q : zH → zAV → Option ρ} {r : ρ} (h : g_X1_readWatch σ av q = some r) (hv : ∀ a ∈ av, zval X a) : zcon X 13 σ av q r := by
  unfold g_X1_readWatch at h
  split at h
  · exact zcon_V (n := 13) (ml := 1) (rc := 9) (st := 0) (kd := 1) (np := 0) (by decide +kernel) rfl ⟨_, _, rfl, rfl⟩ (Nat.le_of_ble_eq_true rfl) hv h (fun y h1 => (zin_ok (hy_X1_readWatch hX) bk_X1_readWatch (fun t f hf => by
      cases hf) ((e_X1_readWatch _).symm.trans h1)))
  · cases h
/-! SleepWaves$Scanner.isSign(I)Z -/
def q_X7_isSign_17 : List zEnt := zEa 17 (.goto 4) 3 21 :: []
def q_X7_isSign_16 : List zEnt := zEk 16 (.iconst 1) 1 1 :: q_X7_isSign_17
def q_X7_isSign_13 : List zEnt := zEa 13 (.if_icmp .ne 7) 3 20 :: q_X7_isSign_16
def q_X7_isSign_8 : List zEnt := zE 8 (.aload_n 0) 1 :: zEf 9 (.getfield 34) 3 7 4 11 (0, 0, 0) :: zE 12 (.iload_n 1) 1 :: q_X7_isSign_13
def q_X7_isSign_5 : List zEnt := zEa 5 (.if_icmp .ne 15) 3 20 :: q_X7_isSign_8
def q_X7_isSign_0 : List zEnt := zE 0 (.aload_n 0) 1 :: zEf 1 (.getfield 31) 3 7 3 9 (0, 0, 0) :: zEk 4 (.iconst 3) 1 3 :: q_X7_isSign_5
def q_X7_isSign_21 : List zEnt := zE 21 .ireturn 1 :: []
def q_X7_isSign_20 : List zEnt := zEk 20 (.iconst 0) 1 0 :: q_X7_isSign_21
def b_X7_isSign : List (Nat × List zEnt) := [(0, q_X7_isSign_0), (20, q_X7_isSign_20), (21, q_X7_isSign_21)]
theorem bk_X7_isSign : zchB 68 b_X7_isSign = true := by decide +kernel
theorem hy_X7_isSign {ρ : Type} {X : zX} (hX : zHX X) : zHY X 68 (zc0 (ρ := ρ)) := zHX.hY hX (zc0_ok X) (zmok_all 68 (by decide))
theorem t_X7_isSign_0 {G : Nat → zH → List zAV → List zAV → Option (zH × Int32)} (es : List zEnt) (σ : zH) (x1 : Int32)  (w4 : Int32) : zev zc0 G 1 krI (zE 0 (.aload_n 0) 1 :: zEf 1 (.getfield 31) 3 7 3 9 (0, 0, 0) :: zEk 4 (.iconst 3) 1 w4 :: es) σ [vR 7 0, vI x1] [] = zev zc0 G 1 krI es σ [vR 7 0, vI x1] [vI w4, vI (σ.1 7 0 3)] := rfl
theorem t_X7_isSign_8 {G : Nat → zH → List zAV → List zAV → Option (zH × Int32)} (es : List zEnt) (σ : zH) (x1 : Int32)   : zev zc0 G 1 krI (zE 8 (.aload_n 0) 1 :: zEf 9 (.getfield 34) 3 7 4 11 (0, 0, 0) :: zE 12 (.iload_n 1) 1 :: es) σ [vR 7 0, vI x1] [] = zev zc0 G 1 krI es σ [vR 7 0, vI x1] [vI x1, vI (σ.1 7 0 4)] := rfl
theorem t_X7_isSign_16 {G : Nat → zH → List zAV → List zAV → Option (zH × Int32)} (es : List zEnt) (σ : zH)  (y0 : zAV) (y1 : zAV) (w16 : Int32) : zev zc0 G 1 krI (zEk 16 (.iconst 1) 1 w16 :: es) σ [y0, y1] [] = zev zc0 G 1 krI es σ [y0, y1] [vI w16] := rfl
theorem t_X7_isSign_20 {G : Nat → zH → List zAV → List zAV → Option (zH × Int32)} (es : List zEnt) (σ : zH)  (y0 : zAV) (y1 : zAV) (w20 : Int32) : zev zc0 G 1 krI (zEk 20 (.iconst 0) 1 w20 :: es) σ [y0, y1] [] = zev zc0 G 1 krI es σ [y0, y1] [vI w20] := rfl
noncomputable def d_X7_isSign (σ : zH) (xa1 : Int32) : Option (zH × Int32) :=
  if (σ.1 7 0 3) = (3 : Int32) then
    if (σ.1 7 0 4) = xa1 then
      some (σ, (1 : Int32))
    else
      some (σ, (0 : Int32))
  else
    some (σ, (0 : Int32))
theorem e_X7_isSign (σ : zH) (xa1 : Int32) : d_X7_isSign σ xa1 = zin zc0 (fun t => none) 1 krI b_X7_isSign 0 σ [vR 7 0, vI xa1] [] := by
  unfold d_X7_isSign
  refine Eq.symm ((zin_b (es := q_X7_isSign_0) rfl).trans ?_)
  refine (t_X7_isSign_0 _ _ _ _).trans ?_
  refine x_icmp.trans (pif_ne ?_ ?_)
  · refine (zrun_b (es := q_X7_isSign_20) rfl rfl).trans ?_
    refine (t_X7_isSign_20 _ _ _ _ _).trans ?_
    exact x_zret.trans (tv_l (by decide +kernel))
  · refine (t_X7_isSign_8 _ _ _).trans ?_
    refine x_icmp.trans (pif_ne ?_ ?_)
    · refine (zrun_b (es := q_X7_isSign_20) rfl rfl).trans ?_
      refine (t_X7_isSign_20 _ _ _ _ _).trans ?_
      exact x_zret.trans (tv_l (by decide +kernel))
    · refine (t_X7_isSign_16 _ _ _ _ _).trans ?_
      refine x_goto.trans ?_
      refine (zrun_b (es := q_X7_isSign_21) rfl rfl).trans ?_
      exact x_zret.trans (tv_l (by decide +kernel))
noncomputable def g_X7_isSign {ρ : Type} (σ : zH) (av : List zAV) (q : zH → zAV → Option ρ) : Option ρ := match av with
  | [.inr (.inr (.inl (7, 0))), .inl xa1] => (d_X7_isSign σ xa1).bind fun p => q p.1 (vI p.2)
  | _ => none
theorem gr_X7_isSign {ρ : Type} (σ : zH) (xa1 : Int32) (q : zH → zAV → Option ρ) : g_X7_isSign σ [vR 7 0, vI xa1] q = (d_X7_isSign σ xa1).bind fun p => q p.1 (vI p.2) := rfl
theorem c_X7_isSign {ρ : Type} {X : zX} (hX : zHX X) {σ : zH} {av : List zAV} {q : zH → zAV → Option ρ} {r : ρ} (h : g_X7_isSign σ av q = some r) (hv : ∀ a ∈ av, zval X a) : zcon X 68 σ av q r := by
  unfold g_X7_isSign at h
  split at h
  · exact zcon_I (n := 68) (ml := 2) (rc := 1) (st := 0) (kd := 7) (np := 1) (by decide +kernel) (by decide) ⟨_, _, rfl, rfl⟩ (Nat.le_of_ble_eq_true rfl) hv h (fun y h1 => (zin_ok (hy_X7_isSign hX) bk_X7_isSign (fun t f hf => by
      cases hf) ((e_X7_isSign _ _).symm.trans h1)))
  · cases h
/-! SleepWaves$CampReader.clauseFollows()Z -/
def q_X1_clauseFollows_11 : List zEnt := zE 11 .ireturn 1 :: []
def q_X1_clauseFollows_10 : List zEnt := zEk 10 (.iconst 0) 1 0 :: q_X1_clauseFollows_11
def q_X1_clauseFollows_7 : List zEnt := zEa 7 (.ifCond .eq 5) 3 12 :: q_X1_clauseFollows_10
def q_X1_clauseFollows_4 : List zEnt := zEc 4 (.invokevirtual 75) 3 62 1 14 0 :: q_X1_clauseFollows_7
def q_X1_clauseFollows_0 : List zEnt := zE 0 (.aload_n 0) 1 :: zEf 1 (.getfield 9) 3 1 0 17 (2, 7, 0) :: q_X1_clauseFollows_4
def q_X1_clauseFollows_52 : List zEnt := zE 52 .ireturn 1 :: []
def q_X1_clauseFollows_51 : List zEnt := zE 51 (.iload_n 1) 1 :: q_X1_clauseFollows_52
def q_X1_clauseFollows_48 : List zEnt := zEc 48 (.invokevirtual 63) 3 61 2 12 1 :: q_X1_clauseFollows_51
def q_X1_clauseFollows_43 : List zEnt := zE 43 (.aload_n 0) 1 :: zEf 44 (.getfield 9) 3 1 0 17 (2, 7, 0) :: zEk 47 (.iconst 0) 1 0 :: q_X1_clauseFollows_48
def q_X1_clauseFollows_40 : List zEnt := zEa 40 (.ifCond .eq 11) 3 51 :: q_X1_clauseFollows_43
def q_X1_clauseFollows_33 : List zEnt := zE 33 (.aload_n 0) 1 :: zEf 34 (.getfield 9) 3 1 0 17 (2, 7, 0) :: zEf 37 (.getfield 82) 3 7 3 8 (0, 0, 0) :: q_X1_clauseFollows_40
def q_X1_clauseFollows_30 : List zEnt := zEa 30 (.ifCond .ne 21) 3 51 :: q_X1_clauseFollows_33
def q_X1_clauseFollows_28 : List zEnt := zE 28 (.istore_n 1) 1 :: zE 29 (.iload_n 1) 1 :: q_X1_clauseFollows_30
def q_X1_clauseFollows_25 : List zEnt := zEc 25 (.invokevirtual 78) 3 68 2 19 0 :: q_X1_clauseFollows_28
def q_X1_clauseFollows_19 : List zEnt := zE 19 (.aload_n 0) 1 :: zEf 20 (.getfield 9) 3 1 0 17 (2, 7, 0) :: zEk 23 (.bipush 59) 2 59 :: q_X1_clauseFollows_25
def q_X1_clauseFollows_16 : List zEnt := zEc 16 (.invokevirtual 36) 3 63 1 4 1 :: q_X1_clauseFollows_19
def q_X1_clauseFollows_12 : List zEnt := zE 12 (.aload_n 0) 1 :: zEf 13 (.getfield 9) 3 1 0 17 (2, 7, 0) :: q_X1_clauseFollows_16
def b_X1_clauseFollows : List (Nat × List zEnt) := [(0, q_X1_clauseFollows_0), (12, q_X1_clauseFollows_12), (51, q_X1_clauseFollows_51)]
theorem bk_X1_clauseFollows : zchB 8 b_X1_clauseFollows = true := by decide +kernel
noncomputable def cc_X1_clauseFollows {ρ : Type} : Nat → zH → List zAV → (zH → zAV → Option ρ) → Option ρ := fun n σ av q => if n = 62 then g_X7_failed σ av q else if n = 63 then g_X7_next σ av q else if n = 68 then g_X7_isSign σ av q else if n = 61 then g_X7_fail σ av q else none
theorem cs_X1_clauseFollows {ρ : Type} {X : zX} (hX : zHX X) : zCS X (cc_X1_clauseFollows (ρ := ρ)) := by
  intro n σ av q r h hv
  unfold cc_X1_clauseFollows at h
  by_cases e_X7_failed : n = 62
  · rw [if_pos e_X7_failed] at h
    subst e_X7_failed
    exact c_X7_failed hX h hv
  rw [if_neg e_X7_failed] at h
  by_cases e_X7_next : n = 63
  · rw [if_pos e_X7_next] at h
    subst e_X7_next
    exact c_X7_next hX h hv
  rw [if_neg e_X7_next] at h
  by_cases e_X7_isSign : n = 68
  · rw [if_pos e_X7_isSign] at h
    subst e_X7_isSign
    exact c_X7_isSign hX h hv
  rw [if_neg e_X7_isSign] at h
  by_cases e_X7_fail : n = 61
  · rw [if_pos e_X7_fail] at h
    subst e_X7_fail
    exact c_X7_fail hX h hv
  rw [if_neg e_X7_fail] at h
  cases h
theorem cl_X1_clauseFollows_X7_failed {ρ : Type} (σ : zH) (av : List zAV) (q : zH → zAV → Option ρ) : cc_X1_clauseFollows 62 σ av q = g_X7_failed σ av q := rfl
theorem cl_X1_clauseFollows_X7_next {ρ : Type} (σ : zH) (av : List zAV) (q : zH → zAV → Option ρ) : cc_X1_clauseFollows 63 σ av q = g_X7_next σ av q := rfl
theorem cl_X1_clauseFollows_X7_isSign {ρ : Type} (σ : zH) (av : List zAV) (q : zH → zAV → Option ρ) : cc_X1_clauseFollows 68 σ av q = g_X7_isSign σ av q := rfl
theorem cl_X1_clauseFollows_X7_fail {ρ : Type} (σ : zH) (av : List zAV) (q : zH → zAV → Option ρ) : cc_X1_clauseFollows 61 σ av q = g_X7_fail σ av q := rfl
theorem hy_X1_clauseFollows {ρ : Type} {X : zX} (hX : zHX X) : zHY X 8 (cc_X1_clauseFollows (ρ := ρ)) := zHX.hY hX (cs_X1_clauseFollows hX) (zmok_all 8 (by decide))
theorem t_X1_clauseFollows_0 {G : Nat → zH → List zAV → List zAV → Option (zH × Int32)} (es : List zEnt) (σ : zH)  (y1 : zAV)  : zev cc_X1_clauseFollows G 1 krI (zE 0 (.aload_n 0) 1 :: zEf 1 (.getfield 9) 3 1 0 17 (2, 7, 0) :: es) σ [vR 1 0, y1] [] = zev cc_X1_clauseFollows G 1 krI es σ [vR 1 0, y1] [vR 7 0] := rfl
theorem t_X1_clauseFollows_10 {G : Nat → zH → List zAV → List zAV → Option (zH × Int32)} (es : List zEnt) (σ : zH)  (y0 : zAV) (y1 : zAV) (w10 : Int32) : zev cc_X1_clauseFollows G 1 krI (zEk 10 (.iconst 0) 1 w10 :: es) σ [y0, y1] [] = zev cc_X1_clauseFollows G 1 krI es σ [y0, y1] [vI w10] := rfl
theorem t_X1_clauseFollows_12 {G : Nat → zH → List zAV → List zAV → Option (zH × Int32)} (es : List zEnt) (σ : zH)  (y1 : zAV)  : zev cc_X1_clauseFollows G 1 krI (zE 12 (.aload_n 0) 1 :: zEf 13 (.getfield 9) 3 1 0 17 (2, 7, 0) :: es) σ [vR 1 0, y1] [] = zev cc_X1_clauseFollows G 1 krI es σ [vR 1 0, y1] [vR 7 0] := rfl
theorem t_X1_clauseFollows_19 {G : Nat → zH → List zAV → List zAV → Option (zH × Int32)} (es : List zEnt) (σ : zH)  (y1 : zAV) (w23 : Int32) : zev cc_X1_clauseFollows G 1 krI (zE 19 (.aload_n 0) 1 :: zEf 20 (.getfield 9) 3 1 0 17 (2, 7, 0) :: zEk 23 (.bipush 59) 2 w23 :: es) σ [vR 1 0, y1] [] = zev cc_X1_clauseFollows G 1 krI es σ [vR 1 0, y1] [vI w23, vR 7 0] := rfl
theorem t_X1_clauseFollows_28 {G : Nat → zH → List zAV → List zAV → Option (zH × Int32)} (es : List zEnt) (σ : zH) (xs0 : Int32) (y1 : zAV)  : zev cc_X1_clauseFollows G 1 krI (zE 28 (.istore_n 1) 1 :: zE 29 (.iload_n 1) 1 :: es) σ [vR 1 0, y1] [vI xs0] = zev cc_X1_clauseFollows G 1 krI es σ [vR 1 0, vI xs0] [vI xs0] := rfl
theorem t_X1_clauseFollows_33 {G : Nat → zH → List zAV → List zAV → Option (zH × Int32)} (es : List zEnt) (σ : zH) (x1 : Int32)   : zev cc_X1_clauseFollows G 1 krI (zE 33 (.aload_n 0) 1 :: zEf 34 (.getfield 9) 3 1 0 17 (2, 7, 0) :: zEf 37 (.getfield 82) 3 7 3 8 (0, 0, 0) :: es) σ [vR 1 0, vI x1] [] = zev cc_X1_clauseFollows G 1 krI es σ [vR 1 0, vI x1] [vI (σ.1 7 0 3)] := rfl
theorem t_X1_clauseFollows_43 {G : Nat → zH → List zAV → List zAV → Option (zH × Int32)} (es : List zEnt) (σ : zH) (x1 : Int32)  (w47 : Int32) : zev cc_X1_clauseFollows G 1 krI (zE 43 (.aload_n 0) 1 :: zEf 44 (.getfield 9) 3 1 0 17 (2, 7, 0) :: zEk 47 (.iconst 0) 1 w47 :: es) σ [vR 1 0, vI x1] [] = zev cc_X1_clauseFollows G 1 krI es σ [vR 1 0, vI x1] [vI w47, vR 7 0] := rfl
theorem t_X1_clauseFollows_51 {G : Nat → zH → List zAV → List zAV → Option (zH × Int32)} (es : List zEnt) (σ : zH) (x1 : Int32) (y0 : zAV)  : zev cc_X1_clauseFollows G 1 krI (zE 51 (.iload_n 1) 1 :: es) σ [y0, vI x1] [] = zev cc_X1_clauseFollows G 1 krI es σ [y0, vI x1] [vI x1] := rfl
noncomputable def d_X1_clauseFollows (σ : zH)  : Option (zH × Int32) :=
  (d_X7_failed σ).bind fun p1 =>
  if p1.2 = 0 then
    (d_X7_next p1.1).bind fun σ2 =>
    (d_X7_isSign σ2 (59 : Int32)).bind fun p3 =>
    if p3.2 = 0 then
      if (p3.1.1 7 0 3) = 0 then
        tv p3.2 <| some (p3.1, p3.2)
      else
        (d_X7_fail p3.1 (0 : Int32)).bind fun σ4 =>
        tv p3.2 <| some (σ4, p3.2)
    else
      tv p3.2 <| some (p3.1, p3.2)
  else
    some (p1.1, (0 : Int32))
theorem e_X1_clauseFollows (σ : zH)  : d_X1_clauseFollows σ = zin cc_X1_clauseFollows (fun t => none) 1 krI b_X1_clauseFollows 0 σ [vR 1 0, vU] [] := by
  unfold d_X1_clauseFollows
  refine Eq.symm ((zin_b (es := q_X1_clauseFollows_0) rfl).trans ?_)
  refine (t_X1_clauseFollows_0 _ _ _).trans ?_
  refine (x_callV rfl rfl rfl rfl).trans ((cl_X1_clauseFollows_X7_failed _ _ _).trans ((gr_X7_failed _ _).trans (pbd fun _ => ?_)))
  refine x_if.trans (pif_eq ?_ ?_)
  · refine (zrun_b (es := q_X1_clauseFollows_12) rfl rfl).trans ?_
    refine (t_X1_clauseFollows_12 _ _ _).trans ?_
    refine (x_callV rfl rfl rfl rfl).trans ((cl_X1_clauseFollows_X7_next _ _ _).trans ((gr_X7_next _ _).trans (pbd fun _ => ?_)))
    refine (t_X1_clauseFollows_19 _ _ _ _).trans ?_
    refine (x_callV rfl rfl rfl rfl).trans ((cl_X1_clauseFollows_X7_isSign _ _ _).trans ((gr_X7_isSign _ _ _).trans (pbd fun _ => ?_)))
    refine (t_X1_clauseFollows_28 _ _ _ _).trans ?_
    refine x_if.trans (pif_ne ?_ ?_)
    · refine (zrun_b (es := q_X1_clauseFollows_51) rfl rfl).trans ?_
      refine (t_X1_clauseFollows_51 _ _ _ _).trans ?_
      exact x_zret
    · refine (t_X1_clauseFollows_33 _ _ _).trans ?_
      refine x_if.trans (pif_eq ?_ ?_)
      · refine (zrun_b (es := q_X1_clauseFollows_51) rfl rfl).trans ?_
        refine (t_X1_clauseFollows_51 _ _ _ _).trans ?_
        exact x_zret
      · refine (t_X1_clauseFollows_43 _ _ _ _).trans ?_
        refine (x_callV rfl rfl rfl rfl).trans ((cl_X1_clauseFollows_X7_fail _ _ _).trans ((gr_X7_fail _ _ _).trans (pbd fun _ => ?_)))
        refine (t_X1_clauseFollows_51 _ _ _ _).trans ?_
        exact x_zret
  · refine (t_X1_clauseFollows_10 _ _ _ _ _).trans ?_
    exact x_zret.trans (tv_l (by decide +kernel))
noncomputable def g_X1_clauseFollows {ρ : Type} (σ : zH) (av : List zAV) (q : zH → zAV → Option ρ) : Option ρ := match av with
  | [.inr (.inr (.inl (1, 0)))] => (d_X1_clauseFollows σ).bind fun p => q p.1 (vI p.2)
  | _ => none
theorem gr_X1_clauseFollows {ρ : Type} (σ : zH)  (q : zH → zAV → Option ρ) : g_X1_clauseFollows σ [vR 1 0] q = (d_X1_clauseFollows σ).bind fun p => q p.1 (vI p.2) := rfl
theorem c_X1_clauseFollows {ρ : Type} {X : zX} (hX : zHX X) {σ : zH} {av : List zAV} {q : zH → zAV → Option ρ} {r : ρ} (h : g_X1_clauseFollows σ av q = some r) (hv : ∀ a ∈ av, zval X a) : zcon X 8 σ av q r := by
  unfold g_X1_clauseFollows at h
  split at h
  · exact zcon_I (n := 8) (ml := 2) (rc := 1) (st := 0) (kd := 1) (np := 0) (by decide +kernel) (by decide) ⟨_, _, rfl, rfl⟩ (Nat.le_of_ble_eq_true rfl) hv h (fun y h1 => (zin_ok (hy_X1_clauseFollows hX) bk_X1_clauseFollows (fun t f hf => by
      cases hf) ((e_X1_clauseFollows _).symm.trans h1)))
  · cases h
/-! SleepWaves$CampReader.readCamp(LSleepWaves$Camp;)I -/
def q_X1_readCamp_24 : List zEnt := zEk 24 (.iconst 1) 1 1 :: zE 25 (.istore_n 2) 1 :: zEk 26 (.iconst 0) 1 0 :: zE 27 (.istore_n 3) 1 :: [zE 28 .nop 0]
def q_X1_readCamp_21 : List zEnt := zEc 21 (.invokevirtual 28) 3 60 1 3 1 :: q_X1_readCamp_24
def q_X1_readCamp_17 : List zEnt := zE 17 (.aload_n 0) 1 :: zEf 18 (.getfield 9) 3 1 0 17 (2, 7, 0) :: q_X1_readCamp_21
def q_X1_readCamp_14 : List zEnt := zEf 14 (.putfield 24) 3 1 3 20 (0, 1, 0) :: q_X1_readCamp_17
def q_X1_readCamp_12 : List zEnt := zE 12 (.aload_n 0) 1 :: zEk 13 (.iconst 0) 1 0 :: q_X1_readCamp_14
def q_X1_readCamp_9 : List zEnt := zEc 9 (.invokevirtual 19) 3 0 1 2 1 :: q_X1_readCamp_12
def q_X1_readCamp_6 : List zEnt := zEf 6 (.getfield 15) 3 1 1 18 (3, 0, 0) :: q_X1_readCamp_9
def q_X1_readCamp_5 : List zEnt := zE 5 (.aload_n 0) 1 :: q_X1_readCamp_6
def q_X1_readCamp_2 : List zEnt := zEf 2 (.putfield 15) 3 1 1 18 (3, 0, 0) :: q_X1_readCamp_5
def q_X1_readCamp_0 : List zEnt := zE 0 (.aload_n 0) 1 :: zE 1 (.aload_n 1) 1 :: q_X1_readCamp_2
def q_X1_readCamp_46 : List zEnt := zEa 46 (.goto 4) 3 50 :: []
def q_X1_readCamp_45 : List zEnt := zEk 45 (.iconst 1) 1 1 :: q_X1_readCamp_46
def q_X1_readCamp_42 : List zEnt := zEa 42 (.if_icmp .ne 7) 3 49 :: q_X1_readCamp_45
def q_X1_readCamp_38 : List zEnt := zE 38 (.aload_n 0) 1 :: zE 39 (.iload_n 3) 1 :: zEk 40 (.bipush 24) 2 24 :: q_X1_readCamp_42
def q_X1_readCamp_35 : List zEnt := zEa 35 (.if_icmp .gt 120) 3 155 :: q_X1_readCamp_38
def q_X1_readCamp_32 : List zEnt := zE 32 (.iload_n 3) 1 :: zEk 33 (.bipush 24) 2 24 :: q_X1_readCamp_35
def q_X1_readCamp_29 : List zEnt := zEa 29 (.ifCond .eq 126) 3 155 :: q_X1_readCamp_32
def q_X1_readCamp_28 : List zEnt := zE 28 (.iload_n 2) 1 :: q_X1_readCamp_29
def q_X1_readCamp_49 : List zEnt := zEk 49 (.iconst 0) 1 0 :: [zE 50 .nop 0]
def q_X1_readCamp_76 : List zEnt := zEa 76 (.goto 68) 3 144 :: []
def q_X1_readCamp_73 : List zEnt := zEc 73 (.invokevirtual 45) 3 10 1 10 1 :: q_X1_readCamp_76
def q_X1_readCamp_72 : List zEnt := zE 72 (.aload_n 0) 1 :: q_X1_readCamp_73
def q_X1_readCamp_69 : List zEnt := zEa 69 (.ifCond .eq 10) 3 79 :: q_X1_readCamp_72
def q_X1_readCamp_66 : List zEnt := zEc 66 (.invokevirtual 41) 3 69 2 9 0 :: q_X1_readCamp_69
def q_X1_readCamp_60 : List zEnt := zE 60 (.aload_n 0) 1 :: zEf 61 (.getfield 9) 3 1 0 17 (2, 7, 0) :: (64, (.ldc 39), 2, (1, 0, 0, 0), (0, 0, 0), 0, 0, []) :: q_X1_readCamp_66
def q_X1_readCamp_57 : List zEnt := zEc 57 (.invokevirtual 36) 3 63 1 4 1 :: q_X1_readCamp_60
def q_X1_readCamp_53 : List zEnt := zE 53 (.aload_n 0) 1 :: zEf 54 (.getfield 9) 3 1 0 17 (2, 7, 0) :: q_X1_readCamp_57
def q_X1_readCamp_50 : List zEnt := zEf 50 (.putfield 33) 3 1 2 19 (0, 1, 0) :: q_X1_readCamp_53
def q_X1_readCamp_95 : List zEnt := zEa 95 (.goto 49) 3 144 :: []
def q_X1_readCamp_92 : List zEnt := zEc 92 (.invokevirtual 50) 3 11 1 15 1 :: q_X1_readCamp_95
def q_X1_readCamp_91 : List zEnt := zE 91 (.aload_n 0) 1 :: q_X1_readCamp_92
def q_X1_readCamp_88 : List zEnt := zEa 88 (.ifCond .eq 10) 3 98 :: q_X1_readCamp_91
def q_X1_readCamp_85 : List zEnt := zEc 85 (.invokevirtual 41) 3 69 2 9 0 :: q_X1_readCamp_88
def q_X1_readCamp_79 : List zEnt := zE 79 (.aload_n 0) 1 :: zEf 80 (.getfield 9) 3 1 0 17 (2, 7, 0) :: (83, (.ldc 48), 2, (1, 1, 0, 0), (0, 0, 0), 0, 0, []) :: q_X1_readCamp_85
def q_X1_readCamp_114 : List zEnt := zEa 114 (.goto 30) 3 144 :: []
def q_X1_readCamp_111 : List zEnt := zEc 111 (.invokevirtual 55) 3 12 1 16 1 :: q_X1_readCamp_114
def q_X1_readCamp_110 : List zEnt := zE 110 (.aload_n 0) 1 :: q_X1_readCamp_111
def q_X1_readCamp_107 : List zEnt := zEa 107 (.ifCond .eq 10) 3 117 :: q_X1_readCamp_110
def q_X1_readCamp_104 : List zEnt := zEc 104 (.invokevirtual 41) 3 69 2 9 0 :: q_X1_readCamp_107
def q_X1_readCamp_98 : List zEnt := zE 98 (.aload_n 0) 1 :: zEf 99 (.getfield 9) 3 1 0 17 (2, 7, 0) :: (102, (.ldc 53), 2, (1, 2, 0, 0), (0, 0, 0), 0, 0, []) :: q_X1_readCamp_104
def q_X1_readCamp_133 : List zEnt := zEa 133 (.goto 11) 3 144 :: []
def q_X1_readCamp_130 : List zEnt := zEc 130 (.invokevirtual 60) 3 13 1 17 1 :: q_X1_readCamp_133
def q_X1_readCamp_129 : List zEnt := zE 129 (.aload_n 0) 1 :: q_X1_readCamp_130
def q_X1_readCamp_126 : List zEnt := zEa 126 (.ifCond .eq 10) 3 136 :: q_X1_readCamp_129
def q_X1_readCamp_123 : List zEnt := zEc 123 (.invokevirtual 41) 3 69 2 9 0 :: q_X1_readCamp_126
def q_X1_readCamp_117 : List zEnt := zE 117 (.aload_n 0) 1 :: zEf 118 (.getfield 9) 3 1 0 17 (2, 7, 0) :: (121, (.ldc 58), 2, (1, 3, 0, 0), (0, 0, 0), 0, 0, []) :: q_X1_readCamp_123
def q_X1_readCamp_141 : List zEnt := zEc 141 (.invokevirtual 63) 3 61 2 12 1 :: [zE 144 .nop 0]
def q_X1_readCamp_136 : List zEnt := zE 136 (.aload_n 0) 1 :: zEf 137 (.getfield 9) 3 1 0 17 (2, 7, 0) :: zEk 140 (.iconst 0) 1 0 :: q_X1_readCamp_141
def q_X1_readCamp_152 : List zEnt := zEa 152 (.goto (-124)) 3 28 :: []
def q_X1_readCamp_148 : List zEnt := zE 148 (.istore_n 2) 1 :: zEk 149 (.iinc 3 1) 3 1 :: q_X1_readCamp_152
def q_X1_readCamp_145 : List zEnt := zEc 145 (.invokevirtual 67) 3 8 1 18 0 :: q_X1_readCamp_148
def q_X1_readCamp_144 : List zEnt := zE 144 (.aload_n 0) 1 :: q_X1_readCamp_145
def q_X1_readCamp_162 : List zEnt := zE 162 .ireturn 1 :: []
def q_X1_readCamp_155 : List zEnt := zE 155 (.aload_n 0) 1 :: zEf 156 (.getfield 9) 3 1 0 17 (2, 7, 0) :: zEf 159 (.getfield 71) 3 7 5 16 (0, 0, 0) :: q_X1_readCamp_162
def b_X1_readCamp : List (Nat × List zEnt) := [(0, q_X1_readCamp_0), (28, q_X1_readCamp_28), (49, q_X1_readCamp_49), (50, q_X1_readCamp_50), (79, q_X1_readCamp_79), (98, q_X1_readCamp_98), (117, q_X1_readCamp_117), (136, q_X1_readCamp_136), (144, q_X1_readCamp_144), (155, q_X1_readCamp_155)]
theorem bk_X1_readCamp : zchB 7 b_X1_readCamp = true := by decide +kernel
noncomputable def cc_X1_readCamp {ρ : Type} : Nat → zH → List zAV → (zH → zAV → Option ρ) → Option ρ := fun n σ av q => if n = 0 then g_X0_clear σ av q else if n = 60 then g_X7_begin σ av q else if n = 63 then g_X7_next σ av q else if n = 69 then g_X7_isWord σ av q else if n = 10 then g_X1_readCompany σ av q else if n = 11 then g_X1_readBell σ av q else if n = 12 then g_X1_readDuty σ av q else if n = 13 then g_X1_readWatch σ av q else if n = 61 then g_X7_fail σ av q else if n = 8 then g_X1_clauseFollows σ av q else none
theorem cs_X1_readCamp {ρ : Type} {X : zX} (hX : zHX X) : zCS X (cc_X1_readCamp (ρ := ρ)) := by
  intro n σ av q r h hv
  unfold cc_X1_readCamp at h
  by_cases e_X0_clear : n = 0
  · rw [if_pos e_X0_clear] at h
    subst e_X0_clear
    exact c_X0_clear hX h hv
  rw [if_neg e_X0_clear] at h
  by_cases e_X7_begin : n = 60
  · rw [if_pos e_X7_begin] at h
    subst e_X7_begin
    exact c_X7_begin hX h hv
  rw [if_neg e_X7_begin] at h
  by_cases e_X7_next : n = 63
  · rw [if_pos e_X7_next] at h
    subst e_X7_next
    exact c_X7_next hX h hv
  rw [if_neg e_X7_next] at h
  by_cases e_X7_isWord : n = 69
  · rw [if_pos e_X7_isWord] at h
    subst e_X7_isWord
    exact c_X7_isWord hX h hv
  rw [if_neg e_X7_isWord] at h
  by_cases e_X1_readCompany : n = 10
  · rw [if_pos e_X1_readCompany] at h
    subst e_X1_readCompany
    exact c_X1_readCompany hX h hv
  rw [if_neg e_X1_readCompany] at h
  by_cases e_X1_readBell : n = 11
  · rw [if_pos e_X1_readBell] at h
    subst e_X1_readBell
    exact c_X1_readBell hX h hv
  rw [if_neg e_X1_readBell] at h
  by_cases e_X1_readDuty : n = 12
  · rw [if_pos e_X1_readDuty] at h
    subst e_X1_readDuty
    exact c_X1_readDuty hX h hv
  rw [if_neg e_X1_readDuty] at h
  by_cases e_X1_readWatch : n = 13
  · rw [if_pos e_X1_readWatch] at h
    subst e_X1_readWatch
    exact c_X1_readWatch hX h hv
  rw [if_neg e_X1_readWatch] at h
  by_cases e_X7_fail : n = 61
  · rw [if_pos e_X7_fail] at h
    subst e_X7_fail
    exact c_X7_fail hX h hv
  rw [if_neg e_X7_fail] at h
  by_cases e_X1_clauseFollows : n = 8
  · rw [if_pos e_X1_clauseFollows] at h
    subst e_X1_clauseFollows
    exact c_X1_clauseFollows hX h hv
  rw [if_neg e_X1_clauseFollows] at h
  cases h
theorem cl_X1_readCamp_X0_clear {ρ : Type} (σ : zH) (av : List zAV) (q : zH → zAV → Option ρ) : cc_X1_readCamp 0 σ av q = g_X0_clear σ av q := rfl
theorem cl_X1_readCamp_X7_begin {ρ : Type} (σ : zH) (av : List zAV) (q : zH → zAV → Option ρ) : cc_X1_readCamp 60 σ av q = g_X7_begin σ av q := rfl
theorem cl_X1_readCamp_X7_next {ρ : Type} (σ : zH) (av : List zAV) (q : zH → zAV → Option ρ) : cc_X1_readCamp 63 σ av q = g_X7_next σ av q := rfl
theorem cl_X1_readCamp_X7_isWord {ρ : Type} (σ : zH) (av : List zAV) (q : zH → zAV → Option ρ) : cc_X1_readCamp 69 σ av q = g_X7_isWord σ av q := rfl
theorem cl_X1_readCamp_X1_readCompany {ρ : Type} (σ : zH) (av : List zAV) (q : zH → zAV → Option ρ) : cc_X1_readCamp 10 σ av q = g_X1_readCompany σ av q := rfl
theorem cl_X1_readCamp_X1_readBell {ρ : Type} (σ : zH) (av : List zAV) (q : zH → zAV → Option ρ) : cc_X1_readCamp 11 σ av q = g_X1_readBell σ av q := rfl
theorem cl_X1_readCamp_X1_readDuty {ρ : Type} (σ : zH) (av : List zAV) (q : zH → zAV → Option ρ) : cc_X1_readCamp 12 σ av q = g_X1_readDuty σ av q := rfl
theorem cl_X1_readCamp_X1_readWatch {ρ : Type} (σ : zH) (av : List zAV) (q : zH → zAV → Option ρ) : cc_X1_readCamp 13 σ av q = g_X1_readWatch σ av q := rfl
theorem cl_X1_readCamp_X7_fail {ρ : Type} (σ : zH) (av : List zAV) (q : zH → zAV → Option ρ) : cc_X1_readCamp 61 σ av q = g_X7_fail σ av q := rfl
theorem cl_X1_readCamp_X1_clauseFollows {ρ : Type} (σ : zH) (av : List zAV) (q : zH → zAV → Option ρ) : cc_X1_readCamp 8 σ av q = g_X1_clauseFollows σ av q := rfl
theorem hy_X1_readCamp {ρ : Type} {X : zX} (hX : zHX X) : zHY X 7 (cc_X1_readCamp (ρ := ρ)) := zHX.hY hX (cs_X1_readCamp hX) (zmok_all 7 (by decide))
def gl_X1_readCamp_28 {ρ : Type} (f : zH → Int32 → Int32 → Option ρ) (σ : zH) (L st : List zAV) : Option ρ := match L, st with
  | [.inr (.inr (.inl (1, 0))), _, .inl x2, .inl x3], [] => f σ x2 x3
  | _, _ => none
def gl_X1_readCamp_50 {ρ : Type} (f : zH → Int32 → Int32 → Option ρ) (σ : zH) (L st : List zAV) : Option ρ := match L, st with
  | [.inr (.inr (.inl (1, 0))), _, _, .inl x3], [.inl xs1, .inr (.inr (.inl (1, 0)))] => f σ x3 xs1
  | _, _ => none
def gl_X1_readCamp_144 {ρ : Type} (f : zH → Int32 → Option ρ) (σ : zH) (L st : List zAV) : Option ρ := match L, st with
  | [.inr (.inr (.inl (1, 0))), _, _, .inl x3], [] => f σ x3
  | _, _ => none
theorem glr_X1_readCamp_28 {ρ : Type} (f : zH → Int32 → Int32 → Option ρ) (σ : zH) (x2 : Int32) (x3 : Int32) (y1 : zAV) : gl_X1_readCamp_28 f σ [vR 1 0, y1, vI x2, vI x3] [] = f σ x2 x3 := rfl
theorem glr_X1_readCamp_50 {ρ : Type} (f : zH → Int32 → Int32 → Option ρ) (σ : zH) (x3 : Int32) (xs1 : Int32) (y1 : zAV) (y2 : zAV) : gl_X1_readCamp_50 f σ [vR 1 0, y1, y2, vI x3] [vI xs1, vR 1 0] = f σ x3 xs1 := rfl
theorem glr_X1_readCamp_144 {ρ : Type} (f : zH → Int32 → Option ρ) (σ : zH) (x3 : Int32) (y1 : zAV) (y2 : zAV) : gl_X1_readCamp_144 f σ [vR 1 0, y1, y2, vI x3] [] = f σ x3 := rfl
theorem t_X1_readCamp_0 {G : Nat → zH → List zAV → List zAV → Option (zH × Int32)} (es : List zEnt) (σ : zH) (i1 : Nat) (y2 : zAV) (y3 : zAV)  : zev cc_X1_readCamp G 0 krI (zE 0 (.aload_n 0) 1 :: zE 1 (.aload_n 1) 1 :: es) σ [vR 1 0, vR 0 i1, y2, y3] [] = zev cc_X1_readCamp G 0 krI es σ [vR 1 0, vR 0 i1, y2, y3] [vR 0 i1, vR 1 0] := rfl
theorem t_X1_readCamp_5 {G : Nat → zH → List zAV → List zAV → Option (zH × Int32)} (es : List zEnt) (σ : zH)  (y1 : zAV) (y2 : zAV) (y3 : zAV)  : zev cc_X1_readCamp G 0 krI (zE 5 (.aload_n 0) 1 :: es) σ [vR 1 0, y1, y2, y3] [] = zev cc_X1_readCamp G 0 krI es σ [vR 1 0, y1, y2, y3] [vR 1 0] := rfl
theorem t_X1_readCamp_12 {G : Nat → zH → List zAV → List zAV → Option (zH × Int32)} (es : List zEnt) (σ : zH)  (y1 : zAV) (y2 : zAV) (y3 : zAV) (w13 : Int32) : zev cc_X1_readCamp G 0 krI (zE 12 (.aload_n 0) 1 :: zEk 13 (.iconst 0) 1 w13 :: es) σ [vR 1 0, y1, y2, y3] [] = zev cc_X1_readCamp G 0 krI es σ [vR 1 0, y1, y2, y3] [vI w13, vR 1 0] := rfl
theorem t_X1_readCamp_17 {G : Nat → zH → List zAV → List zAV → Option (zH × Int32)} (es : List zEnt) (σ : zH)  (y1 : zAV) (y2 : zAV) (y3 : zAV)  : zev cc_X1_readCamp G 0 krI (zE 17 (.aload_n 0) 1 :: zEf 18 (.getfield 9) 3 1 0 17 (2, 7, 0) :: es) σ [vR 1 0, y1, y2, y3] [] = zev cc_X1_readCamp G 0 krI es σ [vR 1 0, y1, y2, y3] [vR 7 0] := rfl
theorem t_X1_readCamp_24 {G : Nat → zH → List zAV → List zAV → Option (zH × Int32)} (es : List zEnt) (σ : zH)  (y1 : zAV) (y2 : zAV) (y3 : zAV) (w24 : Int32) (w26 : Int32) : zev cc_X1_readCamp G 0 krI (zEk 24 (.iconst 1) 1 w24 :: zE 25 (.istore_n 2) 1 :: zEk 26 (.iconst 0) 1 w26 :: zE 27 (.istore_n 3) 1 :: es) σ [vR 1 0, y1, y2, y3] [] = zev cc_X1_readCamp G 0 krI es σ [vR 1 0, (zkp y1), vI w24, vI w26] [] := rfl
theorem t_X1_readCamp_28 {G : Nat → zH → List zAV → List zAV → Option (zH × Int32)} (es : List zEnt) (σ : zH) (x2 : Int32) (x3 : Int32) (y1 : zAV)  : zev cc_X1_readCamp G 0 krI (zE 28 (.iload_n 2) 1 :: es) σ [vR 1 0, y1, vI x2, vI x3] [] = zev cc_X1_readCamp G 0 krI es σ [vR 1 0, y1, vI x2, vI x3] [vI x2] := rfl
theorem t_X1_readCamp_32 {G : Nat → zH → List zAV → List zAV → Option (zH × Int32)} (es : List zEnt) (σ : zH) (x3 : Int32) (y1 : zAV) (y2 : zAV) (w33 : Int32) : zev cc_X1_readCamp G 0 krI (zE 32 (.iload_n 3) 1 :: zEk 33 (.bipush 24) 2 w33 :: es) σ [vR 1 0, y1, y2, vI x3] [] = zev cc_X1_readCamp G 0 krI es σ [vR 1 0, y1, y2, vI x3] [vI w33, vI x3] := rfl
theorem t_X1_readCamp_38 {G : Nat → zH → List zAV → List zAV → Option (zH × Int32)} (es : List zEnt) (σ : zH) (x3 : Int32) (y1 : zAV) (y2 : zAV) (w40 : Int32) : zev cc_X1_readCamp G 0 krI (zE 38 (.aload_n 0) 1 :: zE 39 (.iload_n 3) 1 :: zEk 40 (.bipush 24) 2 w40 :: es) σ [vR 1 0, y1, y2, vI x3] [] = zev cc_X1_readCamp G 0 krI es σ [vR 1 0, y1, y2, vI x3] [vI w40, vI x3, vR 1 0] := rfl
theorem t_X1_readCamp_45 {G : Nat → zH → List zAV → List zAV → Option (zH × Int32)} (es : List zEnt) (σ : zH) (x3 : Int32) (y1 : zAV) (y2 : zAV) (w45 : Int32) : zev cc_X1_readCamp G 0 krI (zEk 45 (.iconst 1) 1 w45 :: es) σ [vR 1 0, y1, y2, vI x3] [vR 1 0] = zev cc_X1_readCamp G 0 krI es σ [vR 1 0, y1, y2, vI x3] [vI w45, vR 1 0] := rfl
theorem t_X1_readCamp_49 {G : Nat → zH → List zAV → List zAV → Option (zH × Int32)} (es : List zEnt) (σ : zH) (x3 : Int32) (y1 : zAV) (y2 : zAV) (w49 : Int32) : zev cc_X1_readCamp G 0 krI (zEk 49 (.iconst 0) 1 w49 :: es) σ [vR 1 0, y1, y2, vI x3] [vR 1 0] = zev cc_X1_readCamp G 0 krI es σ [vR 1 0, y1, y2, vI x3] [vI w49, vR 1 0] := rfl
theorem t_X1_readCamp_53 {G : Nat → zH → List zAV → List zAV → Option (zH × Int32)} (es : List zEnt) (σ : zH) (x3 : Int32) (y1 : zAV) (y2 : zAV)  : zev cc_X1_readCamp G 0 krI (zE 53 (.aload_n 0) 1 :: zEf 54 (.getfield 9) 3 1 0 17 (2, 7, 0) :: es) σ [vR 1 0, y1, y2, vI x3] [] = zev cc_X1_readCamp G 0 krI es σ [vR 1 0, y1, y2, vI x3] [vR 7 0] := rfl
theorem t_X1_readCamp_60 {G : Nat → zH → List zAV → List zAV → Option (zH × Int32)} (es : List zEnt) (σ : zH) (x3 : Int32) (y1 : zAV) (y2 : zAV)  : zev cc_X1_readCamp G 0 krI (zE 60 (.aload_n 0) 1 :: zEf 61 (.getfield 9) 3 1 0 17 (2, 7, 0) :: (64, (.ldc 39), 2, (1, 0, 0, 0), (0, 0, 0), 0, 0, []) :: es) σ [vR 1 0, y1, y2, vI x3] [] = zev cc_X1_readCamp G 0 krI es σ [vR 1 0, y1, y2, vI x3] [vR 200 0, vR 7 0] := rfl
theorem t_X1_readCamp_72 {G : Nat → zH → List zAV → List zAV → Option (zH × Int32)} (es : List zEnt) (σ : zH) (x3 : Int32) (y1 : zAV) (y2 : zAV)  : zev cc_X1_readCamp G 0 krI (zE 72 (.aload_n 0) 1 :: es) σ [vR 1 0, y1, y2, vI x3] [] = zev cc_X1_readCamp G 0 krI es σ [vR 1 0, y1, y2, vI x3] [vR 1 0] := rfl
theorem t_X1_readCamp_79 {G : Nat → zH → List zAV → List zAV → Option (zH × Int32)} (es : List zEnt) (σ : zH) (x3 : Int32) (y1 : zAV) (y2 : zAV)  : zev cc_X1_readCamp G 0 krI (zE 79 (.aload_n 0) 1 :: zEf 80 (.getfield 9) 3 1 0 17 (2, 7, 0) :: (83, (.ldc 48), 2, (1, 1, 0, 0), (0, 0, 0), 0, 0, []) :: es) σ [vR 1 0, y1, y2, vI x3] [] = zev cc_X1_readCamp G 0 krI es σ [vR 1 0, y1, y2, vI x3] [vR 200 1, vR 7 0] := rfl
theorem t_X1_readCamp_91 {G : Nat → zH → List zAV → List zAV → Option (zH × Int32)} (es : List zEnt) (σ : zH) (x3 : Int32) (y1 : zAV) (y2 : zAV)  : zev cc_X1_readCamp G 0 krI (zE 91 (.aload_n 0) 1 :: es) σ [vR 1 0, y1, y2, vI x3] [] = zev cc_X1_readCamp G 0 krI es σ [vR 1 0, y1, y2, vI x3] [vR 1 0] := rfl
theorem t_X1_readCamp_98 {G : Nat → zH → List zAV → List zAV → Option (zH × Int32)} (es : List zEnt) (σ : zH) (x3 : Int32) (y1 : zAV) (y2 : zAV)  : zev cc_X1_readCamp G 0 krI (zE 98 (.aload_n 0) 1 :: zEf 99 (.getfield 9) 3 1 0 17 (2, 7, 0) :: (102, (.ldc 53), 2, (1, 2, 0, 0), (0, 0, 0), 0, 0, []) :: es) σ [vR 1 0, y1, y2, vI x3] [] = zev cc_X1_readCamp G 0 krI es σ [vR 1 0, y1, y2, vI x3] [vR 200 2, vR 7 0] := rfl
theorem t_X1_readCamp_110 {G : Nat → zH → List zAV → List zAV → Option (zH × Int32)} (es : List zEnt) (σ : zH) (x3 : Int32) (y1 : zAV) (y2 : zAV)  : zev cc_X1_readCamp G 0 krI (zE 110 (.aload_n 0) 1 :: es) σ [vR 1 0, y1, y2, vI x3] [] = zev cc_X1_readCamp G 0 krI es σ [vR 1 0, y1, y2, vI x3] [vR 1 0] := rfl
theorem t_X1_readCamp_117 {G : Nat → zH → List zAV → List zAV → Option (zH × Int32)} (es : List zEnt) (σ : zH) (x3 : Int32) (y1 : zAV) (y2 : zAV)  : zev cc_X1_readCamp G 0 krI (zE 117 (.aload_n 0) 1 :: zEf 118 (.getfield 9) 3 1 0 17 (2, 7, 0) :: (121, (.ldc 58), 2, (1, 3, 0, 0), (0, 0, 0), 0, 0, []) :: es) σ [vR 1 0, y1, y2, vI x3] [] = zev cc_X1_readCamp G 0 krI es σ [vR 1 0, y1, y2, vI x3] [vR 200 3, vR 7 0] := rfl
theorem t_X1_readCamp_129 {G : Nat → zH → List zAV → List zAV → Option (zH × Int32)} (es : List zEnt) (σ : zH) (x3 : Int32) (y1 : zAV) (y2 : zAV)  : zev cc_X1_readCamp G 0 krI (zE 129 (.aload_n 0) 1 :: es) σ [vR 1 0, y1, y2, vI x3] [] = zev cc_X1_readCamp G 0 krI es σ [vR 1 0, y1, y2, vI x3] [vR 1 0] := rfl
theorem t_X1_readCamp_136 {G : Nat → zH → List zAV → List zAV → Option (zH × Int32)} (es : List zEnt) (σ : zH) (x3 : Int32) (y1 : zAV) (y2 : zAV) (w140 : Int32) : zev cc_X1_readCamp G 0 krI (zE 136 (.aload_n 0) 1 :: zEf 137 (.getfield 9) 3 1 0 17 (2, 7, 0) :: zEk 140 (.iconst 0) 1 w140 :: es) σ [vR 1 0, y1, y2, vI x3] [] = zev cc_X1_readCamp G 0 krI es σ [vR 1 0, y1, y2, vI x3] [vI w140, vR 7 0] := rfl
theorem t_X1_readCamp_144 {G : Nat → zH → List zAV → List zAV → Option (zH × Int32)} (es : List zEnt) (σ : zH) (x3 : Int32) (y1 : zAV) (y2 : zAV)  : zev cc_X1_readCamp G 0 krI (zE 144 (.aload_n 0) 1 :: es) σ [vR 1 0, y1, y2, vI x3] [] = zev cc_X1_readCamp G 0 krI es σ [vR 1 0, y1, y2, vI x3] [vR 1 0] := rfl
theorem t_X1_readCamp_148 {G : Nat → zH → List zAV → List zAV → Option (zH × Int32)} (es : List zEnt) (σ : zH) (x3 : Int32) (xs0 : Int32) (y1 : zAV) (y2 : zAV) (w149 : Int32) : zev cc_X1_readCamp G 0 krI (zE 148 (.istore_n 2) 1 :: zEk 149 (.iinc 3 1) 3 w149 :: es) σ [vR 1 0, y1, y2, vI x3] [vI xs0] = zev cc_X1_readCamp G 0 krI es σ [vR 1 0, (zkp y1), vI xs0, vI (x3 + w149)] [] := rfl
theorem t_X1_readCamp_155 {G : Nat → zH → List zAV → List zAV → Option (zH × Int32)} (es : List zEnt) (σ : zH)  (y1 : zAV) (y2 : zAV) (y3 : zAV)  : zev cc_X1_readCamp G 0 krI (zE 155 (.aload_n 0) 1 :: zEf 156 (.getfield 9) 3 1 0 17 (2, 7, 0) :: zEf 159 (.getfield 71) 3 7 5 16 (0, 0, 0) :: es) σ [vR 1 0, y1, y2, y3] [] = zev cc_X1_readCamp G 0 krI es σ [vR 1 0, y1, y2, y3] [vI (σ.1 7 0 5)] := rfl
noncomputable def j_X1_readCamp_144 (c28 : zH → Int32 → Int32 → Option (zH × Int32)) (σ : zH) (x3 : Int32) : Option (zH × Int32) :=
  (d_X1_clauseFollows σ).bind fun p1 =>
  c28 p1.1 p1.2 (x3 + (1 : Int32))
theorem e_X1_readCamp_144 (c28 : zH → Int32 → Int32 → Option (zH × Int32)) (σ : zH) (x3 : Int32) (y1 : zAV) (y2 : zAV) : j_X1_readCamp_144 c28 σ x3 = zin cc_X1_readCamp (fun t => if t = 28 then some (gl_X1_readCamp_28 c28) else none) 0 krI b_X1_readCamp 144 σ [vR 1 0, y1, y2, vI x3] [] := by
  unfold j_X1_readCamp_144
  refine Eq.symm ((zin_b (es := q_X1_readCamp_144) rfl).trans ?_)
  refine (t_X1_readCamp_144 _ _ _ _ _).trans ?_
  refine (x_callV rfl rfl rfl rfl).trans ((cl_X1_readCamp_X1_clauseFollows _ _ _).trans ((gr_X1_clauseFollows _ _).trans (pbd fun _ => ?_)))
  refine (t_X1_readCamp_148 _ _ _ _ _ _ _).trans ?_
  refine x_goto.trans ?_
  exact (zrun_c rfl).trans (glr_X1_readCamp_28 _ _ _ _ _)
theorem s_X1_readCamp_144 {X : zX} (hX : zHX X) {c28 : zH → Int32 → Int32 → Option (zH × Int32)} (h28 : ∀ σ L st r, gl_X1_readCamp_28 c28 σ L st = some r → zGW X 7 krI 28 σ L st r) : ∀ σ L st r, gl_X1_readCamp_144 (j_X1_readCamp_144 c28) σ L st = some r → zGW X 7 krI 144 σ L st r := by
  intro σ L st r h
  unfold gl_X1_readCamp_144 at h
  split at h
  · exact zin_ok (hy_X1_readCamp hX) bk_X1_readCamp (fun t f hf => by
    by_cases e28 : t = 28
    · rw [if_pos e28] at hf; subst e28; cases hf; exact h28
    rw [if_neg e28] at hf
    cases hf) ((e_X1_readCamp_144 _ _ _ _ _).symm.trans h)
  · cases h
noncomputable def j_X1_readCamp_50 (c28 : zH → Int32 → Int32 → Option (zH × Int32)) (σ : zH) (x3 : Int32) (xs1 : Int32) : Option (zH × Int32) :=
  tv xs1 <| zlet (uI σ 1 0 2 xs1) fun σ1 =>
  (d_X7_next σ1).bind fun σ2 =>
  (d_X7_isWord σ2 0).bind fun p3 =>
  if p3.2 = 0 then
    (d_X7_isWord p3.1 1).bind fun p4 =>
    if p4.2 = 0 then
      (d_X7_isWord p4.1 2).bind fun p5 =>
      if p5.2 = 0 then
        (d_X7_isWord p5.1 3).bind fun p6 =>
        if p6.2 = 0 then
          (d_X7_fail p6.1 (0 : Int32)).bind fun σ7 =>
          (j_X1_readCamp_144 c28) σ7 x3
        else
          (d_X1_readWatch p6.1).bind fun σ8 =>
          (j_X1_readCamp_144 c28) σ8 x3
      else
        (d_X1_readDuty p5.1).bind fun σ9 =>
        (j_X1_readCamp_144 c28) σ9 x3
    else
      (d_X1_readBell p4.1).bind fun σ10 =>
      (j_X1_readCamp_144 c28) σ10 x3
  else
    (d_X1_readCompany p3.1).bind fun σ11 =>
    (j_X1_readCamp_144 c28) σ11 x3
theorem e_X1_readCamp_50 (c28 : zH → Int32 → Int32 → Option (zH × Int32)) (σ : zH) (x3 : Int32) (xs1 : Int32) (y1 : zAV) (y2 : zAV) : j_X1_readCamp_50 c28 σ x3 xs1 = zin cc_X1_readCamp (fun t => if t = 144 then some (gl_X1_readCamp_144 (j_X1_readCamp_144 c28)) else none) 0 krI b_X1_readCamp 50 σ [vR 1 0, y1, y2, vI x3] [vI xs1, vR 1 0] := by
  unfold j_X1_readCamp_50
  refine Eq.symm ((zin_b (es := q_X1_readCamp_50) rfl).trans ?_)
  refine x_pf1.trans (ptv (plt fun _ => ?_))
  refine (t_X1_readCamp_53 _ _ _ _ _).trans ?_
  refine (x_callV rfl rfl rfl rfl).trans ((cl_X1_readCamp_X7_next _ _ _).trans ((gr_X7_next _ _).trans (pbd fun _ => ?_)))
  refine (t_X1_readCamp_60 _ _ _ _ _).trans ?_
  refine (x_callV rfl rfl rfl rfl).trans ((cl_X1_readCamp_X7_isWord _ _ _).trans ((gr_X7_isWord _ _ _).trans (pbd fun _ => ?_)))
  refine x_if.trans (pif_eq ?_ ?_)
  · refine (zrun_b (es := q_X1_readCamp_79) rfl rfl).trans ?_
    refine (t_X1_readCamp_79 _ _ _ _ _).trans ?_
    refine (x_callV rfl rfl rfl rfl).trans ((cl_X1_readCamp_X7_isWord _ _ _).trans ((gr_X7_isWord _ _ _).trans (pbd fun _ => ?_)))
    refine x_if.trans (pif_eq ?_ ?_)
    · refine (zrun_b (es := q_X1_readCamp_98) rfl rfl).trans ?_
      refine (t_X1_readCamp_98 _ _ _ _ _).trans ?_
      refine (x_callV rfl rfl rfl rfl).trans ((cl_X1_readCamp_X7_isWord _ _ _).trans ((gr_X7_isWord _ _ _).trans (pbd fun _ => ?_)))
      refine x_if.trans (pif_eq ?_ ?_)
      · refine (zrun_b (es := q_X1_readCamp_117) rfl rfl).trans ?_
        refine (t_X1_readCamp_117 _ _ _ _ _).trans ?_
        refine (x_callV rfl rfl rfl rfl).trans ((cl_X1_readCamp_X7_isWord _ _ _).trans ((gr_X7_isWord _ _ _).trans (pbd fun _ => ?_)))
        refine x_if.trans (pif_eq ?_ ?_)
        · refine (zrun_b (es := q_X1_readCamp_136) rfl rfl).trans ?_
          refine (t_X1_readCamp_136 _ _ _ _ _ _).trans ?_
          refine (x_callV rfl rfl rfl rfl).trans ((cl_X1_readCamp_X7_fail _ _ _).trans ((gr_X7_fail _ _ _).trans (pbd fun _ => ?_)))
          refine x_cut.trans ?_
          exact (zrun_c rfl).trans (glr_X1_readCamp_144 _ _ _ _ _)
        · refine (t_X1_readCamp_129 _ _ _ _ _).trans ?_
          refine (x_callV rfl rfl rfl rfl).trans ((cl_X1_readCamp_X1_readWatch _ _ _).trans ((gr_X1_readWatch _ _).trans (pbd fun _ => ?_)))
          refine x_goto.trans ?_
          exact (zrun_c rfl).trans (glr_X1_readCamp_144 _ _ _ _ _)
      · refine (t_X1_readCamp_110 _ _ _ _ _).trans ?_
        refine (x_callV rfl rfl rfl rfl).trans ((cl_X1_readCamp_X1_readDuty _ _ _).trans ((gr_X1_readDuty _ _).trans (pbd fun _ => ?_)))
        refine x_goto.trans ?_
        exact (zrun_c rfl).trans (glr_X1_readCamp_144 _ _ _ _ _)
    · refine (t_X1_readCamp_91 _ _ _ _ _).trans ?_
      refine (x_callV rfl rfl rfl rfl).trans ((cl_X1_readCamp_X1_readBell _ _ _).trans ((gr_X1_readBell _ _).trans (pbd fun _ => ?_)))
      refine x_goto.trans ?_
      exact (zrun_c rfl).trans (glr_X1_readCamp_144 _ _ _ _ _)
  · refine (t_X1_readCamp_72 _ _ _ _ _).trans ?_
    refine (x_callV rfl rfl rfl rfl).trans ((cl_X1_readCamp_X1_readCompany _ _ _).trans ((gr_X1_readCompany _ _).trans (pbd fun _ => ?_)))
    refine x_goto.trans ?_
    exact (zrun_c rfl).trans (glr_X1_readCamp_144 _ _ _ _ _)
theorem s_X1_readCamp_50 {X : zX} (hX : zHX X) {c28 : zH → Int32 → Int32 → Option (zH × Int32)} (h28 : ∀ σ L st r, gl_X1_readCamp_28 c28 σ L st = some r → zGW X 7 krI 28 σ L st r) : ∀ σ L st r, gl_X1_readCamp_50 (j_X1_readCamp_50 c28) σ L st = some r → zGW X 7 krI 50 σ L st r := by
  intro σ L st r h
  unfold gl_X1_readCamp_50 at h
  split at h
  · exact zin_ok (hy_X1_readCamp hX) bk_X1_readCamp (fun t f hf => by
    by_cases e144 : t = 144
    · rw [if_pos e144] at hf; subst e144; cases hf; exact (s_X1_readCamp_144 hX h28)
    rw [if_neg e144] at hf
    cases hf) ((e_X1_readCamp_50 _ _ _ _ _ _).symm.trans h)
  · cases h
noncomputable def k_X1_readCamp_28  : Nat → zH → Int32 → Int32 → Option (zH × Int32)
  | 0, _, _, _ => none
  | n + 1, σ, x2, x3 =>
    if x2 = 0 then
      some (σ, (σ.1 7 0 5))
    else
      if (24 : Int32) < x3 then
        some (σ, (σ.1 7 0 5))
      else
        if x3 = (24 : Int32) then
          (j_X1_readCamp_50 (k_X1_readCamp_28 n)) σ x3 (1 : Int32)
        else
          (j_X1_readCamp_50 (k_X1_readCamp_28 n)) σ x3 (0 : Int32)
theorem e_X1_readCamp_28  (n : Nat) (σ : zH) (x2 : Int32) (x3 : Int32) (y1 : zAV) : k_X1_readCamp_28 (n + 1) σ x2 x3 = zin cc_X1_readCamp (fun t => if t = 50 then some (gl_X1_readCamp_50 (j_X1_readCamp_50 (k_X1_readCamp_28 n))) else none) 0 krI b_X1_readCamp 28 σ [vR 1 0, y1, vI x2, vI x3] [] := by
  rw [k_X1_readCamp_28]
  refine Eq.symm ((zin_b (es := q_X1_readCamp_28) rfl).trans ?_)
  refine (t_X1_readCamp_28 _ _ _ _ _).trans ?_
  refine x_if.trans (pif_eq ?_ ?_)
  · refine (zrun_b (es := q_X1_readCamp_155) rfl rfl).trans ?_
    refine (t_X1_readCamp_155 _ _ _ _ _).trans ?_
    exact x_iret
  · refine (t_X1_readCamp_32 _ _ _ _ _ _).trans ?_
    refine x_icmp.trans (pif_gt ?_ ?_)
    · refine (zrun_b (es := q_X1_readCamp_155) rfl rfl).trans ?_
      refine (t_X1_readCamp_155 _ _ _ _ _).trans ?_
      exact x_iret
    · refine (t_X1_readCamp_38 _ _ _ _ _ _).trans ?_
      refine x_icmp.trans (pif_ne ?_ ?_)
      · refine (zrun_b (es := q_X1_readCamp_49) rfl rfl).trans ?_
        refine (t_X1_readCamp_49 _ _ _ _ _ _).trans ?_
        refine x_cut.trans ?_
        exact (zrun_c rfl).trans (glr_X1_readCamp_50 _ _ _ _ _ _)
      · refine (t_X1_readCamp_45 _ _ _ _ _ _).trans ?_
        refine x_goto.trans ?_
        exact (zrun_c rfl).trans (glr_X1_readCamp_50 _ _ _ _ _ _)
theorem s_X1_readCamp_28 {X : zX} (hX : zHX X)   : ∀ n σ L st r, gl_X1_readCamp_28 (k_X1_readCamp_28 n) σ L st = some r → zGW X 7 krI 28 σ L st r := by
  intro n
  induction n with
  | zero =>
    intro σ L st r h
    unfold gl_X1_readCamp_28 at h
    split at h <;> cases h
  | succ n ih =>
    intro σ L st r h
    unfold gl_X1_readCamp_28 at h
    split at h
    · exact zin_ok (hy_X1_readCamp hX) bk_X1_readCamp (fun t f hf => by
      by_cases e50 : t = 50
      · rw [if_pos e50] at hf; subst e50; cases hf; exact (s_X1_readCamp_50 hX ih)
      rw [if_neg e50] at hf
      cases hf) ((e_X1_readCamp_28 _ _ _ _ _).symm.trans h)
    · cases h
noncomputable def d_X1_readCamp (σ : zH) (ia1 : Nat) : Option (zH × Int32) :=
  zlet (uI σ 1 0 1 (Int32.ofNat ia1)) fun σ1 =>
  ix (σ1.1 1 0 1) 9 fun j2 =>
  (d_X0_clear σ1 j2).bind fun σ3 =>
  zlet (uI σ3 1 0 3 (0 : Int32)) fun σ4 =>
  (d_X7_begin σ4).bind fun σ5 =>
  (k_X1_readCamp_28 zN) σ5 (1 : Int32) (0 : Int32)
theorem e_X1_readCamp (σ : zH) (ia1 : Nat) : d_X1_readCamp σ ia1 = zin cc_X1_readCamp (fun t => if t = 28 then some (gl_X1_readCamp_28 (k_X1_readCamp_28 zN)) else none) 0 krI b_X1_readCamp 0 σ [vR 1 0, vR 0 ia1, vU, vU] [] := by
  unfold d_X1_readCamp
  refine Eq.symm ((zin_b (es := q_X1_readCamp_0) rfl).trans ?_)
  refine (t_X1_readCamp_0 _ _ _ _ _).trans ?_
  refine x_pf3.trans (plt fun _ => ?_)
  refine (t_X1_readCamp_5 _ _ _ _ _).trans ?_
  refine x_gf3.trans (pix fun _ => ?_)
  refine (x_callV rfl rfl rfl rfl).trans ((cl_X1_readCamp_X0_clear _ _ _).trans ((gr_X0_clear _ _ _).trans (pbd fun _ => ?_)))
  refine (t_X1_readCamp_12 _ _ _ _ _ _).trans ?_
  refine (x_pf1.trans (tv_l (by decide +kernel))).trans (plt fun _ => ?_)
  refine (t_X1_readCamp_17 _ _ _ _ _).trans ?_
  refine (x_callV rfl rfl rfl rfl).trans ((cl_X1_readCamp_X7_begin _ _ _).trans ((gr_X7_begin _ _).trans (pbd fun _ => ?_)))
  refine (t_X1_readCamp_24 _ _ _ _ _ _ _).trans ?_
  refine x_cut.trans ?_
  exact (zrun_c rfl).trans (glr_X1_readCamp_28 _ _ _ _ _)
noncomputable def g_X1_readCamp {ρ : Type} (σ : zH) (av : List zAV) (q : zH → zAV → Option ρ) : Option ρ := match av with
  | [.inr (.inr (.inl (1, 0))), .inr (.inr (.inl (0, ia1)))] => (d_X1_readCamp σ ia1).bind fun p => q p.1 (vI p.2)
  | _ => none
theorem gr_X1_readCamp {ρ : Type} (σ : zH) (ia1 : Nat) (q : zH → zAV → Option ρ) : g_X1_readCamp σ [vR 1 0, vR 0 ia1] q = (d_X1_readCamp σ ia1).bind fun p => q p.1 (vI p.2) := rfl
theorem c_X1_readCamp {ρ : Type} {X : zX} (hX : zHX X) {σ : zH} {av : List zAV} {q : zH → zAV → Option ρ} {r : ρ} (h : g_X1_readCamp σ av q = some r) (hv : ∀ a ∈ av, zval X a) : zcon X 7 σ av q r := by
  unfold g_X1_readCamp at h
  split at h
  · exact zcon_I (n := 7) (ml := 4) (rc := 0) (st := 0) (kd := 1) (np := 1) (by decide +kernel) (by decide) ⟨_, _, rfl, rfl⟩ (Nat.le_of_ble_eq_true rfl) hv h (fun y h1 => (zin_ok (hy_X1_readCamp hX) bk_X1_readCamp (fun t f hf => by
      by_cases e28 : t = 28
      · rw [if_pos e28] at hf; subst e28; cases hf; exact ((fun σ L st r h => s_X1_readCamp_28 hX  zN σ L st r h))
      rw [if_neg e28] at hf
      cases hf) ((e_X1_readCamp _ _).symm.trans h1)))
  · cases h
/-! SleepWaves$State.copyFrom(LSleepWaves$State;)V -/
def q_X8_copyFrom_173 : List zEnt := zE 173 .return_ 1 :: []
def q_X8_copyFrom_170 : List zEnt := zEf 170 (.putfield 80) 3 8 15 119 (0, 0, 0) :: q_X8_copyFrom_173
def q_X8_copyFrom_165 : List zEnt := zE 165 (.aload_n 0) 1 :: zE 166 (.aload_n 1) 1 :: zEf 167 (.getfield 80) 3 8 15 119 (0, 0, 0) :: q_X8_copyFrom_170
def q_X8_copyFrom_162 : List zEnt := zEf 162 (.putfield 77) 3 8 14 117 (0, 0, 0) :: q_X8_copyFrom_165
def q_X8_copyFrom_157 : List zEnt := zE 157 (.aload_n 0) 1 :: zE 158 (.aload_n 1) 1 :: zEf 159 (.getfield 77) 3 8 14 117 (0, 0, 0) :: q_X8_copyFrom_162
def q_X8_copyFrom_154 : List zEnt := zEf 154 (.putfield 37) 3 8 13 114 (0, 0, 0) :: q_X8_copyFrom_157
def q_X8_copyFrom_149 : List zEnt := zE 149 (.aload_n 0) 1 :: zE 150 (.aload_n 1) 1 :: zEf 151 (.getfield 37) 3 8 13 114 (0, 0, 0) :: q_X8_copyFrom_154
def q_X8_copyFrom_146 : List zEnt := zEf 146 (.putfield 71) 3 8 12 111 (0, 0, 0) :: q_X8_copyFrom_149
def q_X8_copyFrom_141 : List zEnt := zE 141 (.aload_n 0) 1 :: zE 142 (.aload_n 1) 1 :: zEf 143 (.getfield 71) 3 8 12 111 (0, 0, 0) :: q_X8_copyFrom_146
def q_X8_copyFrom_138 : List zEnt := zEc 138 (.invokestatic 86) 3 9004 0 925 0 :: q_X8_copyFrom_141
def q_X8_copyFrom_126 : List zEnt := zE 126 (.aload_n 1) 1 :: zEf 127 (.getfield 34) 3 8 11 109 (1, 36, 0) :: zEk 130 (.iconst 0) 1 0 :: zE 131 (.aload_n 0) 1 :: zEf 132 (.getfield 34) 3 8 11 109 (1, 36, 0) :: zEk 135 (.iconst 0) 1 0 :: zEk 136 (.bipush 12) 2 12 :: q_X8_copyFrom_138
def q_X8_copyFrom_123 : List zEnt := zEc 123 (.invokestatic 86) 3 9004 0 925 0 :: q_X8_copyFrom_126
def q_X8_copyFrom_111 : List zEnt := zE 111 (.aload_n 1) 1 :: zEf 112 (.getfield 31) 3 8 10 107 (1, 35, 0) :: zEk 115 (.iconst 0) 1 0 :: zE 116 (.aload_n 0) 1 :: zEf 117 (.getfield 31) 3 8 10 107 (1, 35, 0) :: zEk 120 (.iconst 0) 1 0 :: zEk 121 (.bipush 12) 2 12 :: q_X8_copyFrom_123
def q_X8_copyFrom_108 : List zEnt := zEc 108 (.invokestatic 86) 3 9004 0 925 0 :: q_X8_copyFrom_111
def q_X8_copyFrom_96 : List zEnt := zE 96 (.aload_n 1) 1 :: zEf 97 (.getfield 28) 3 8 9 105 (1, 34, 0) :: zEk 100 (.iconst 0) 1 0 :: zE 101 (.aload_n 0) 1 :: zEf 102 (.getfield 28) 3 8 9 105 (1, 34, 0) :: zEk 105 (.iconst 0) 1 0 :: zEk 106 (.bipush 12) 2 12 :: q_X8_copyFrom_108
def q_X8_copyFrom_93 : List zEnt := zEc 93 (.invokestatic 86) 3 9004 0 925 0 :: q_X8_copyFrom_96
def q_X8_copyFrom_81 : List zEnt := zE 81 (.aload_n 1) 1 :: zEf 82 (.getfield 25) 3 8 8 104 (1, 33, 0) :: zEk 85 (.iconst 0) 1 0 :: zE 86 (.aload_n 0) 1 :: zEf 87 (.getfield 25) 3 8 8 104 (1, 33, 0) :: zEk 90 (.iconst 0) 1 0 :: zEk 91 (.bipush 12) 2 12 :: q_X8_copyFrom_93
def q_X8_copyFrom_78 : List zEnt := zEc 78 (.invokestatic 86) 3 9004 0 925 0 :: q_X8_copyFrom_81
def q_X8_copyFrom_66 : List zEnt := zE 66 (.aload_n 1) 1 :: zEf 67 (.getfield 22) 3 8 7 102 (1, 32, 0) :: zEk 70 (.iconst 0) 1 0 :: zE 71 (.aload_n 0) 1 :: zEf 72 (.getfield 22) 3 8 7 102 (1, 32, 0) :: zEk 75 (.iconst 0) 1 0 :: zEk 76 (.bipush 12) 2 12 :: q_X8_copyFrom_78
def q_X8_copyFrom_63 : List zEnt := zEc 63 (.invokestatic 86) 3 9004 0 925 0 :: q_X8_copyFrom_66
def q_X8_copyFrom_51 : List zEnt := zE 51 (.aload_n 1) 1 :: zEf 52 (.getfield 18) 3 8 6 100 (1, 31, 0) :: zEk 55 (.iconst 0) 1 0 :: zE 56 (.aload_n 0) 1 :: zEf 57 (.getfield 18) 3 8 6 100 (1, 31, 0) :: zEk 60 (.iconst 0) 1 0 :: zEk 61 (.bipush 12) 2 12 :: q_X8_copyFrom_63
def q_X8_copyFrom_48 : List zEnt := zEf 48 (.putfield 65) 3 8 5 98 (0, 0, 0) :: q_X8_copyFrom_51
def q_X8_copyFrom_43 : List zEnt := zE 43 (.aload_n 0) 1 :: zE 44 (.aload_n 1) 1 :: zEf 45 (.getfield 65) 3 8 5 98 (0, 0, 0) :: q_X8_copyFrom_48
def q_X8_copyFrom_40 : List zEnt := zEf 40 (.putfield 54) 3 8 4 96 (0, 0, 0) :: q_X8_copyFrom_43
def q_X8_copyFrom_35 : List zEnt := zE 35 (.aload_n 0) 1 :: zE 36 (.aload_n 1) 1 :: zEf 37 (.getfield 54) 3 8 4 96 (0, 0, 0) :: q_X8_copyFrom_40
def q_X8_copyFrom_32 : List zEnt := zEf 32 (.putfield 51) 3 8 3 93 (0, 0, 0) :: q_X8_copyFrom_35
def q_X8_copyFrom_27 : List zEnt := zE 27 (.aload_n 0) 1 :: zE 28 (.aload_n 1) 1 :: zEf 29 (.getfield 51) 3 8 3 93 (0, 0, 0) :: q_X8_copyFrom_32
def q_X8_copyFrom_24 : List zEnt := zEf 24 (.putfield 83) 3 8 2 91 (0, 0, 0) :: q_X8_copyFrom_27
def q_X8_copyFrom_19 : List zEnt := zE 19 (.aload_n 0) 1 :: zE 20 (.aload_n 1) 1 :: zEf 21 (.getfield 83) 3 8 2 91 (0, 0, 0) :: q_X8_copyFrom_24
def q_X8_copyFrom_16 : List zEnt := zEf 16 (.putfield 48) 3 8 1 88 (0, 0, 0) :: q_X8_copyFrom_19
def q_X8_copyFrom_11 : List zEnt := zE 11 (.aload_n 0) 1 :: zE 12 (.aload_n 1) 1 :: zEf 13 (.getfield 48) 3 8 1 88 (0, 0, 0) :: q_X8_copyFrom_16
def q_X8_copyFrom_8 : List zEnt := zEc 8 (.invokevirtual 44) 3 1 2 21 1 :: q_X8_copyFrom_11
def q_X8_copyFrom_0 : List zEnt := zE 0 (.aload_n 0) 1 :: zEf 1 (.getfield 12) 3 8 0 84 (1, 0, 1) :: zE 4 (.aload_n 1) 1 :: zEf 5 (.getfield 12) 3 8 0 84 (1, 0, 1) :: q_X8_copyFrom_8
def b_X8_copyFrom : List (Nat × List zEnt) := [(0, q_X8_copyFrom_0)]
theorem bk_X8_copyFrom : zchB 72 b_X8_copyFrom = true := by decide +kernel
noncomputable def cc_X8_copyFrom {ρ : Type} : Nat → zH → List zAV → (zH → zAV → Option ρ) → Option ρ := fun n σ av q => if n = 1 then g_X0_copyFrom σ av q else none
theorem cs_X8_copyFrom {ρ : Type} {X : zX} (hX : zHX X) : zCS X (cc_X8_copyFrom (ρ := ρ)) := by
  intro n σ av q r h hv
  unfold cc_X8_copyFrom at h
  by_cases e_X0_copyFrom : n = 1
  · rw [if_pos e_X0_copyFrom] at h
    subst e_X0_copyFrom
    exact c_X0_copyFrom hX h hv
  rw [if_neg e_X0_copyFrom] at h
  cases h
theorem cl_X8_copyFrom_X0_copyFrom {ρ : Type} (σ : zH) (av : List zAV) (q : zH → zAV → Option ρ) : cc_X8_copyFrom 1 σ av q = g_X0_copyFrom σ av q := rfl
theorem hy_X8_copyFrom {ρ : Type} {X : zX} (hX : zHX X) : zHY X 72 (cc_X8_copyFrom (ρ := ρ)) := zHX.hY hX (cs_X8_copyFrom hX) (zmok_all 72 (by decide))
theorem t_X8_copyFrom_0 {G : Nat → zH → List zAV → List zAV → Option zH} (es : List zEnt) (σ : zH) (i0 : Nat) (i1 : Nat)   : zev cc_X8_copyFrom G 9 krV (zE 0 (.aload_n 0) 1 :: zEf 1 (.getfield 12) 3 8 0 84 (1, 0, 1) :: zE 4 (.aload_n 1) 1 :: zEf 5 (.getfield 12) 3 8 0 84 (1, 0, 1) :: es) σ [vR 8 i0, vR 8 i1] [] = zev cc_X8_copyFrom G 9 krV es σ [vR 8 i0, vR 8 i1] [vR 0 (i1 + 1), vR 0 (i0 + 1)] := rfl
theorem t_X8_copyFrom_11 {G : Nat → zH → List zAV → List zAV → Option zH} (es : List zEnt) (σ : zH) (i0 : Nat) (i1 : Nat)   : zev cc_X8_copyFrom G 9 krV (zE 11 (.aload_n 0) 1 :: zE 12 (.aload_n 1) 1 :: zEf 13 (.getfield 48) 3 8 1 88 (0, 0, 0) :: es) σ [vR 8 i0, vR 8 i1] [] = zev cc_X8_copyFrom G 9 krV es σ [vR 8 i0, vR 8 i1] [vI (σ.1 8 i1 1), vR 8 i0] := rfl
theorem t_X8_copyFrom_19 {G : Nat → zH → List zAV → List zAV → Option zH} (es : List zEnt) (σ : zH) (i0 : Nat) (i1 : Nat)   : zev cc_X8_copyFrom G 9 krV (zE 19 (.aload_n 0) 1 :: zE 20 (.aload_n 1) 1 :: zEf 21 (.getfield 83) 3 8 2 91 (0, 0, 0) :: es) σ [vR 8 i0, vR 8 i1] [] = zev cc_X8_copyFrom G 9 krV es σ [vR 8 i0, vR 8 i1] [vI (σ.1 8 i1 2), vR 8 i0] := rfl
theorem t_X8_copyFrom_27 {G : Nat → zH → List zAV → List zAV → Option zH} (es : List zEnt) (σ : zH) (i0 : Nat) (i1 : Nat)   : zev cc_X8_copyFrom G 9 krV (zE 27 (.aload_n 0) 1 :: zE 28 (.aload_n 1) 1 :: zEf 29 (.getfield 51) 3 8 3 93 (0, 0, 0) :: es) σ [vR 8 i0, vR 8 i1] [] = zev cc_X8_copyFrom G 9 krV es σ [vR 8 i0, vR 8 i1] [vI (σ.1 8 i1 3), vR 8 i0] := rfl
theorem t_X8_copyFrom_35 {G : Nat → zH → List zAV → List zAV → Option zH} (es : List zEnt) (σ : zH) (i0 : Nat) (i1 : Nat)   : zev cc_X8_copyFrom G 9 krV (zE 35 (.aload_n 0) 1 :: zE 36 (.aload_n 1) 1 :: zEf 37 (.getfield 54) 3 8 4 96 (0, 0, 0) :: es) σ [vR 8 i0, vR 8 i1] [] = zev cc_X8_copyFrom G 9 krV es σ [vR 8 i0, vR 8 i1] [vI (σ.1 8 i1 4), vR 8 i0] := rfl
theorem t_X8_copyFrom_43 {G : Nat → zH → List zAV → List zAV → Option zH} (es : List zEnt) (σ : zH) (i0 : Nat) (i1 : Nat)   : zev cc_X8_copyFrom G 9 krV (zE 43 (.aload_n 0) 1 :: zE 44 (.aload_n 1) 1 :: zEf 45 (.getfield 65) 3 8 5 98 (0, 0, 0) :: es) σ [vR 8 i0, vR 8 i1] [] = zev cc_X8_copyFrom G 9 krV es σ [vR 8 i0, vR 8 i1] [vI (σ.1 8 i1 5), vR 8 i0] := rfl
theorem t_X8_copyFrom_51 {G : Nat → zH → List zAV → List zAV → Option zH} (es : List zEnt) (σ : zH) (i0 : Nat) (i1 : Nat)  (w55 : Int32) (w60 : Int32) (w61 : Int32) : zev cc_X8_copyFrom G 9 krV (zE 51 (.aload_n 1) 1 :: zEf 52 (.getfield 18) 3 8 6 100 (1, 31, 0) :: zEk 55 (.iconst 0) 1 w55 :: zE 56 (.aload_n 0) 1 :: zEf 57 (.getfield 18) 3 8 6 100 (1, 31, 0) :: zEk 60 (.iconst 0) 1 w60 :: zEk 61 (.bipush 12) 2 w61 :: es) σ [vR 8 i0, vR 8 i1] [] = zev cc_X8_copyFrom G 9 krV es σ [vR 8 i0, vR 8 i1] [vI w61, vI w60, vR 31 (i0 + 0), vI w55, vR 31 (i1 + 0)] := rfl
theorem t_X8_copyFrom_66 {G : Nat → zH → List zAV → List zAV → Option zH} (es : List zEnt) (σ : zH) (i0 : Nat) (i1 : Nat)  (w70 : Int32) (w75 : Int32) (w76 : Int32) : zev cc_X8_copyFrom G 9 krV (zE 66 (.aload_n 1) 1 :: zEf 67 (.getfield 22) 3 8 7 102 (1, 32, 0) :: zEk 70 (.iconst 0) 1 w70 :: zE 71 (.aload_n 0) 1 :: zEf 72 (.getfield 22) 3 8 7 102 (1, 32, 0) :: zEk 75 (.iconst 0) 1 w75 :: zEk 76 (.bipush 12) 2 w76 :: es) σ [vR 8 i0, vR 8 i1] [] = zev cc_X8_copyFrom G 9 krV es σ [vR 8 i0, vR 8 i1] [vI w76, vI w75, vR 32 (i0 + 0), vI w70, vR 32 (i1 + 0)] := rfl
theorem t_X8_copyFrom_81 {G : Nat → zH → List zAV → List zAV → Option zH} (es : List zEnt) (σ : zH) (i0 : Nat) (i1 : Nat)  (w85 : Int32) (w90 : Int32) (w91 : Int32) : zev cc_X8_copyFrom G 9 krV (zE 81 (.aload_n 1) 1 :: zEf 82 (.getfield 25) 3 8 8 104 (1, 33, 0) :: zEk 85 (.iconst 0) 1 w85 :: zE 86 (.aload_n 0) 1 :: zEf 87 (.getfield 25) 3 8 8 104 (1, 33, 0) :: zEk 90 (.iconst 0) 1 w90 :: zEk 91 (.bipush 12) 2 w91 :: es) σ [vR 8 i0, vR 8 i1] [] = zev cc_X8_copyFrom G 9 krV es σ [vR 8 i0, vR 8 i1] [vI w91, vI w90, vR 33 (i0 + 0), vI w85, vR 33 (i1 + 0)] := rfl
theorem t_X8_copyFrom_96 {G : Nat → zH → List zAV → List zAV → Option zH} (es : List zEnt) (σ : zH) (i0 : Nat) (i1 : Nat)  (w100 : Int32) (w105 : Int32) (w106 : Int32) : zev cc_X8_copyFrom G 9 krV (zE 96 (.aload_n 1) 1 :: zEf 97 (.getfield 28) 3 8 9 105 (1, 34, 0) :: zEk 100 (.iconst 0) 1 w100 :: zE 101 (.aload_n 0) 1 :: zEf 102 (.getfield 28) 3 8 9 105 (1, 34, 0) :: zEk 105 (.iconst 0) 1 w105 :: zEk 106 (.bipush 12) 2 w106 :: es) σ [vR 8 i0, vR 8 i1] [] = zev cc_X8_copyFrom G 9 krV es σ [vR 8 i0, vR 8 i1] [vI w106, vI w105, vR 34 (i0 + 0), vI w100, vR 34 (i1 + 0)] := rfl
theorem t_X8_copyFrom_111 {G : Nat → zH → List zAV → List zAV → Option zH} (es : List zEnt) (σ : zH) (i0 : Nat) (i1 : Nat)  (w115 : Int32) (w120 : Int32) (w121 : Int32) : zev cc_X8_copyFrom G 9 krV (zE 111 (.aload_n 1) 1 :: zEf 112 (.getfield 31) 3 8 10 107 (1, 35, 0) :: zEk 115 (.iconst 0) 1 w115 :: zE 116 (.aload_n 0) 1 :: zEf 117 (.getfield 31) 3 8 10 107 (1, 35, 0) :: zEk 120 (.iconst 0) 1 w120 :: zEk 121 (.bipush 12) 2 w121 :: es) σ [vR 8 i0, vR 8 i1] [] = zev cc_X8_copyFrom G 9 krV es σ [vR 8 i0, vR 8 i1] [vI w121, vI w120, vR 35 (i0 + 0), vI w115, vR 35 (i1 + 0)] := rfl
theorem t_X8_copyFrom_126 {G : Nat → zH → List zAV → List zAV → Option zH} (es : List zEnt) (σ : zH) (i0 : Nat) (i1 : Nat)  (w130 : Int32) (w135 : Int32) (w136 : Int32) : zev cc_X8_copyFrom G 9 krV (zE 126 (.aload_n 1) 1 :: zEf 127 (.getfield 34) 3 8 11 109 (1, 36, 0) :: zEk 130 (.iconst 0) 1 w130 :: zE 131 (.aload_n 0) 1 :: zEf 132 (.getfield 34) 3 8 11 109 (1, 36, 0) :: zEk 135 (.iconst 0) 1 w135 :: zEk 136 (.bipush 12) 2 w136 :: es) σ [vR 8 i0, vR 8 i1] [] = zev cc_X8_copyFrom G 9 krV es σ [vR 8 i0, vR 8 i1] [vI w136, vI w135, vR 36 (i0 + 0), vI w130, vR 36 (i1 + 0)] := rfl
theorem t_X8_copyFrom_141 {G : Nat → zH → List zAV → List zAV → Option zH} (es : List zEnt) (σ : zH) (i0 : Nat) (i1 : Nat)   : zev cc_X8_copyFrom G 9 krV (zE 141 (.aload_n 0) 1 :: zE 142 (.aload_n 1) 1 :: zEf 143 (.getfield 71) 3 8 12 111 (0, 0, 0) :: es) σ [vR 8 i0, vR 8 i1] [] = zev cc_X8_copyFrom G 9 krV es σ [vR 8 i0, vR 8 i1] [vI (σ.1 8 i1 12), vR 8 i0] := rfl
theorem t_X8_copyFrom_149 {G : Nat → zH → List zAV → List zAV → Option zH} (es : List zEnt) (σ : zH) (i0 : Nat) (i1 : Nat)   : zev cc_X8_copyFrom G 9 krV (zE 149 (.aload_n 0) 1 :: zE 150 (.aload_n 1) 1 :: zEf 151 (.getfield 37) 3 8 13 114 (0, 0, 0) :: es) σ [vR 8 i0, vR 8 i1] [] = zev cc_X8_copyFrom G 9 krV es σ [vR 8 i0, vR 8 i1] [vI (σ.1 8 i1 13), vR 8 i0] := rfl
theorem t_X8_copyFrom_157 {G : Nat → zH → List zAV → List zAV → Option zH} (es : List zEnt) (σ : zH) (i0 : Nat) (i1 : Nat)   : zev cc_X8_copyFrom G 9 krV (zE 157 (.aload_n 0) 1 :: zE 158 (.aload_n 1) 1 :: zEf 159 (.getfield 77) 3 8 14 117 (0, 0, 0) :: es) σ [vR 8 i0, vR 8 i1] [] = zev cc_X8_copyFrom G 9 krV es σ [vR 8 i0, vR 8 i1] [vI (σ.1 8 i1 14), vR 8 i0] := rfl
theorem t_X8_copyFrom_165 {G : Nat → zH → List zAV → List zAV → Option zH} (es : List zEnt) (σ : zH) (i0 : Nat) (i1 : Nat)   : zev cc_X8_copyFrom G 9 krV (zE 165 (.aload_n 0) 1 :: zE 166 (.aload_n 1) 1 :: zEf 167 (.getfield 80) 3 8 15 119 (0, 0, 0) :: es) σ [vR 8 i0, vR 8 i1] [] = zev cc_X8_copyFrom G 9 krV es σ [vR 8 i0, vR 8 i1] [vI (σ.1 8 i1 15), vR 8 i0] := rfl
noncomputable def d_X8_copyFrom (σ : zH) (ia0 : Nat) (ia1 : Nat) : Option zH :=
  (d_X0_copyFrom σ (ia0 + 1) (ia1 + 1)).bind fun σ1 =>
  zlet (uI σ1 8 ia0 1 (σ1.1 8 ia1 1)) fun σ2 =>
  zlet (uI σ2 8 ia0 2 (σ2.1 8 ia1 2)) fun σ3 =>
  zlet (uI σ3 8 ia0 3 (σ3.1 8 ia1 3)) fun σ4 =>
  zlet (uI σ4 8 ia0 4 (σ4.1 8 ia1 4)) fun σ5 =>
  zlet (uI σ5 8 ia0 5 (σ5.1 8 ia1 5)) fun σ6 =>
  zlet (cpI σ6 31 (ia1 + 0) 31 (ia0 + 0) 0 0 12) fun σ7 =>
  zlet (cpI σ7 32 (ia1 + 0) 32 (ia0 + 0) 0 0 12) fun σ8 =>
  zlet (cpI σ8 33 (ia1 + 0) 33 (ia0 + 0) 0 0 12) fun σ9 =>
  zlet (cpI σ9 34 (ia1 + 0) 34 (ia0 + 0) 0 0 12) fun σ10 =>
  zlet (cpI σ10 35 (ia1 + 0) 35 (ia0 + 0) 0 0 12) fun σ11 =>
  zlet (cpI σ11 36 (ia1 + 0) 36 (ia0 + 0) 0 0 12) fun σ12 =>
  zlet (uI σ12 8 ia0 12 (σ12.1 8 ia1 12)) fun σ13 =>
  zlet (uI σ13 8 ia0 13 (σ13.1 8 ia1 13)) fun σ14 =>
  zlet (uI σ14 8 ia0 14 (σ14.1 8 ia1 14)) fun σ15 =>
  zlet (uI σ15 8 ia0 15 (σ15.1 8 ia1 15)) fun σ16 =>
  some σ16
theorem e_X8_copyFrom (σ : zH) (ia0 : Nat) (ia1 : Nat) : d_X8_copyFrom σ ia0 ia1 = zin cc_X8_copyFrom (fun t => none) 9 krV b_X8_copyFrom 0 σ [vR 8 ia0, vR 8 ia1] [] := by
  unfold d_X8_copyFrom
  refine Eq.symm ((zin_b (es := q_X8_copyFrom_0) rfl).trans ?_)
  refine (t_X8_copyFrom_0 _ _ _ _).trans ?_
  refine (x_callV rfl rfl rfl rfl).trans ((cl_X8_copyFrom_X0_copyFrom _ _ _).trans ((gr_X0_copyFrom _ _ _ _).trans (pbd fun _ => ?_)))
  refine (t_X8_copyFrom_11 _ _ _ _).trans ?_
  refine x_pf0.trans (plt fun _ => ?_)
  refine (t_X8_copyFrom_19 _ _ _ _).trans ?_
  refine x_pf0.trans (plt fun _ => ?_)
  refine (t_X8_copyFrom_27 _ _ _ _).trans ?_
  refine x_pf0.trans (plt fun _ => ?_)
  refine (t_X8_copyFrom_35 _ _ _ _).trans ?_
  refine x_pf0.trans (plt fun _ => ?_)
  refine (t_X8_copyFrom_43 _ _ _ _).trans ?_
  refine x_pf0.trans (plt fun _ => ?_)
  refine (t_X8_copyFrom_51 _ _ _ _ _ _ _).trans ?_
  refine (x_copy (a := 0) (b := 0) (c := 12) rfl rfl rfl (by decide +kernel)).trans (plt fun _ => ?_)
  refine (t_X8_copyFrom_66 _ _ _ _ _ _ _).trans ?_
  refine (x_copy (a := 0) (b := 0) (c := 12) rfl rfl rfl (by decide +kernel)).trans (plt fun _ => ?_)
  refine (t_X8_copyFrom_81 _ _ _ _ _ _ _).trans ?_
  refine (x_copy (a := 0) (b := 0) (c := 12) rfl rfl rfl (by decide +kernel)).trans (plt fun _ => ?_)
  refine (t_X8_copyFrom_96 _ _ _ _ _ _ _).trans ?_
  refine (x_copy (a := 0) (b := 0) (c := 12) rfl rfl rfl (by decide +kernel)).trans (plt fun _ => ?_)
  refine (t_X8_copyFrom_111 _ _ _ _ _ _ _).trans ?_
  refine (x_copy (a := 0) (b := 0) (c := 12) rfl rfl rfl (by decide +kernel)).trans (plt fun _ => ?_)
  refine (t_X8_copyFrom_126 _ _ _ _ _ _ _).trans ?_
  refine (x_copy (a := 0) (b := 0) (c := 12) rfl rfl rfl (by decide +kernel)).trans (plt fun _ => ?_)
  refine (t_X8_copyFrom_141 _ _ _ _).trans ?_
  refine x_pf0.trans (plt fun _ => ?_)
  refine (t_X8_copyFrom_149 _ _ _ _).trans ?_
  refine x_pf0.trans (plt fun _ => ?_)
  refine (t_X8_copyFrom_157 _ _ _ _).trans ?_
  refine x_pf0.trans (plt fun _ => ?_)
  refine (t_X8_copyFrom_165 _ _ _ _).trans ?_
  refine x_pf0.trans (plt fun _ => ?_)
  exact x_vret
noncomputable def g_X8_copyFrom {ρ : Type} (σ : zH) (av : List zAV) (q : zH → zAV → Option ρ) : Option ρ := match av with
  | [.inr (.inr (.inl (8, ia0))), .inr (.inr (.inl (8, ia1)))] => (d_X8_copyFrom σ ia0 ia1).bind fun σ => q σ vU
  | _ => none
theorem gr_X8_copyFrom {ρ : Type} (σ : zH) (ia0 : Nat) (ia1 : Nat) (q : zH → zAV → Option ρ) : g_X8_copyFrom σ [vR 8 ia0, vR 8 ia1] q = (d_X8_copyFrom σ ia0 ia1).bind fun σ => q σ vU := rfl
theorem c_X8_copyFrom {ρ : Type} {X : zX} (hX : zHX X) {σ : zH} {av : List zAV} {q : zH → zAV → Option ρ} {r : ρ} (h : g_X8_copyFrom σ av q = some r) (hv : ∀ a ∈ av, zval X a) : zcon X 72 σ av q r := by
  unfold g_X8_copyFrom at h
  split at h
  · exact zcon_V (n := 72) (ml := 2) (rc := 9) (st := 0) (kd := 8) (np := 1) (by decide +kernel) rfl ⟨_, _, rfl, rfl⟩ (Nat.le_of_ble_eq_true rfl) hv h (fun y h1 => (zin_ok (hy_X8_copyFrom hX) bk_X8_copyFrom (fun t f hf => by
      cases hf) ((e_X8_copyFrom _ _ _).symm.trans h1)))
  · cases h
/-! SleepWaves$State.beginCounts()V -/
def q_X8_beginCounts_38 : List zEnt := zE 38 .return_ 1 :: []
def q_X8_beginCounts_35 : List zEnt := zEf 35 (.putfield 80) 3 8 15 119 (0, 0, 0) :: q_X8_beginCounts_38
def q_X8_beginCounts_33 : List zEnt := zE 33 (.aload_n 0) 1 :: zEk 34 (.iconst 0) 1 0 :: q_X8_beginCounts_35
def q_X8_beginCounts_30 : List zEnt := zEf 30 (.putfield 77) 3 8 14 117 (0, 0, 0) :: q_X8_beginCounts_33
def q_X8_beginCounts_27 : List zEnt := zEc 27 (.invokevirtual 61) 3 4 2 23 0 :: q_X8_beginCounts_30
def q_X8_beginCounts_11 : List zEnt := zE 11 (.aload_n 0) 1 :: zE 12 (.aload_n 0) 1 :: zEf 13 (.getfield 12) 3 8 0 84 (1, 0, 1) :: zEk 16 (.iconst 1) 1 1 :: zE 17 (.aload_n 0) 1 :: zEf 18 (.getfield 12) 3 8 0 84 (1, 0, 1) :: zEf 21 (.getfield 74) 3 0 0 31 (0, 0, 0) :: zE 24 .ishl 1 :: zEk 25 (.iconst 1) 1 1 :: zE 26 .isub 1 :: q_X8_beginCounts_27
def q_X8_beginCounts_8 : List zEnt := zEf 8 (.putfield 37) 3 8 13 114 (0, 0, 0) :: q_X8_beginCounts_11
def q_X8_beginCounts_5 : List zEnt := zE 5 (.aload_n 0) 1 :: zEk 6 (.bipush (-2)) 2 (-2) :: q_X8_beginCounts_8
def q_X8_beginCounts_2 : List zEnt := zEf 2 (.putfield 71) 3 8 12 111 (0, 0, 0) :: q_X8_beginCounts_5
def q_X8_beginCounts_0 : List zEnt := zE 0 (.aload_n 0) 1 :: zEk 1 (.iconst 0) 1 0 :: q_X8_beginCounts_2
def b_X8_beginCounts : List (Nat × List zEnt) := [(0, q_X8_beginCounts_0)]
theorem bk_X8_beginCounts : zchB 71 b_X8_beginCounts = true := by decide +kernel
noncomputable def cc_X8_beginCounts {ρ : Type} : Nat → zH → List zAV → (zH → zAV → Option ρ) → Option ρ := fun n σ av q => if n = 4 then g_X0_menOf σ av q else none
theorem cs_X8_beginCounts {ρ : Type} {X : zX} (hX : zHX X) : zCS X (cc_X8_beginCounts (ρ := ρ)) := by
  intro n σ av q r h hv
  unfold cc_X8_beginCounts at h
  by_cases e_X0_menOf : n = 4
  · rw [if_pos e_X0_menOf] at h
    subst e_X0_menOf
    exact c_X0_menOf hX h hv
  rw [if_neg e_X0_menOf] at h
  cases h
theorem cl_X8_beginCounts_X0_menOf {ρ : Type} (σ : zH) (av : List zAV) (q : zH → zAV → Option ρ) : cc_X8_beginCounts 4 σ av q = g_X0_menOf σ av q := rfl
theorem hy_X8_beginCounts {ρ : Type} {X : zX} (hX : zHX X) : zHY X 71 (cc_X8_beginCounts (ρ := ρ)) := zHX.hY hX (cs_X8_beginCounts hX) (zmok_all 71 (by decide))
theorem t_X8_beginCounts_0 {G : Nat → zH → List zAV → List zAV → Option zH} (es : List zEnt) (σ : zH) (i0 : Nat)  (w1 : Int32) : zev cc_X8_beginCounts G 9 krV (zE 0 (.aload_n 0) 1 :: zEk 1 (.iconst 0) 1 w1 :: es) σ [vR 8 i0] [] = zev cc_X8_beginCounts G 9 krV es σ [vR 8 i0] [vI w1, vR 8 i0] := rfl
theorem t_X8_beginCounts_5 {G : Nat → zH → List zAV → List zAV → Option zH} (es : List zEnt) (σ : zH) (i0 : Nat)  (w6 : Int32) : zev cc_X8_beginCounts G 9 krV (zE 5 (.aload_n 0) 1 :: zEk 6 (.bipush (-2)) 2 w6 :: es) σ [vR 8 i0] [] = zev cc_X8_beginCounts G 9 krV es σ [vR 8 i0] [vI w6, vR 8 i0] := rfl
theorem t_X8_beginCounts_11 {G : Nat → zH → List zAV → List zAV → Option zH} (es : List zEnt) (σ : zH) (i0 : Nat)  (w16 : Int32) (w25 : Int32) : zev cc_X8_beginCounts G 9 krV (zE 11 (.aload_n 0) 1 :: zE 12 (.aload_n 0) 1 :: zEf 13 (.getfield 12) 3 8 0 84 (1, 0, 1) :: zEk 16 (.iconst 1) 1 w16 :: zE 17 (.aload_n 0) 1 :: zEf 18 (.getfield 12) 3 8 0 84 (1, 0, 1) :: zEf 21 (.getfield 74) 3 0 0 31 (0, 0, 0) :: zE 24 .ishl 1 :: zEk 25 (.iconst 1) 1 w25 :: zE 26 .isub 1 :: es) σ [vR 8 i0] [] = zev cc_X8_beginCounts G 9 krV es σ [vR 8 i0] [vI ((w16 <<< ((σ.1 0 (i0 + 1) 0) &&& 31)) - w25), vR 0 (i0 + 1), vR 8 i0] := rfl
theorem t_X8_beginCounts_33 {G : Nat → zH → List zAV → List zAV → Option zH} (es : List zEnt) (σ : zH) (i0 : Nat)  (w34 : Int32) : zev cc_X8_beginCounts G 9 krV (zE 33 (.aload_n 0) 1 :: zEk 34 (.iconst 0) 1 w34 :: es) σ [vR 8 i0] [] = zev cc_X8_beginCounts G 9 krV es σ [vR 8 i0] [vI w34, vR 8 i0] := rfl
noncomputable def d_X8_beginCounts (σ : zH) (ia0 : Nat) : Option zH :=
  zlet (uI σ 8 ia0 12 (0 : Int32)) fun σ1 =>
  zlet (uI σ1 8 ia0 13 (-2 : Int32)) fun σ2 =>
  (d_X0_menOf σ2 (ia0 + 1) (((1 : Int32) <<< ((σ2.1 0 (ia0 + 1) 0) &&& 31)) - (1 : Int32))).bind fun p3 =>
  zlet (uI p3.1 8 ia0 14 p3.2) fun σ4 =>
  zlet (uI σ4 8 ia0 15 (0 : Int32)) fun σ5 =>
  some σ5
theorem e_X8_beginCounts (σ : zH) (ia0 : Nat) : d_X8_beginCounts σ ia0 = zin cc_X8_beginCounts (fun t => none) 9 krV b_X8_beginCounts 0 σ [vR 8 ia0] [] := by
  unfold d_X8_beginCounts
  refine Eq.symm ((zin_b (es := q_X8_beginCounts_0) rfl).trans ?_)
  refine (t_X8_beginCounts_0 _ _ _ _).trans ?_
  refine x_pf0.trans (plt fun _ => ?_)
  refine (t_X8_beginCounts_5 _ _ _ _).trans ?_
  refine x_pf0.trans (plt fun _ => ?_)
  refine (t_X8_beginCounts_11 _ _ _ _ _).trans ?_
  refine (x_callV rfl rfl rfl rfl).trans ((cl_X8_beginCounts_X0_menOf _ _ _).trans ((gr_X0_menOf _ _ _ _).trans (pbd fun _ => ?_)))
  refine x_pf0.trans (plt fun _ => ?_)
  refine (t_X8_beginCounts_33 _ _ _ _).trans ?_
  refine x_pf0.trans (plt fun _ => ?_)
  exact x_vret
noncomputable def g_X8_beginCounts {ρ : Type} (σ : zH) (av : List zAV) (q : zH → zAV → Option ρ) : Option ρ := match av with
  | [.inr (.inr (.inl (8, ia0)))] => (d_X8_beginCounts σ ia0).bind fun σ => q σ vU
  | _ => none
theorem gr_X8_beginCounts {ρ : Type} (σ : zH) (ia0 : Nat) (q : zH → zAV → Option ρ) : g_X8_beginCounts σ [vR 8 ia0] q = (d_X8_beginCounts σ ia0).bind fun σ => q σ vU := rfl
theorem c_X8_beginCounts {ρ : Type} {X : zX} (hX : zHX X) {σ : zH} {av : List zAV} {q : zH → zAV → Option ρ} {r : ρ} (h : g_X8_beginCounts σ av q = some r) (hv : ∀ a ∈ av, zval X a) : zcon X 71 σ av q r := by
  unfold g_X8_beginCounts at h
  split at h
  · exact zcon_V (n := 71) (ml := 1) (rc := 9) (st := 0) (kd := 8) (np := 0) (by decide +kernel) rfl ⟨_, _, rfl, rfl⟩ (Nat.le_of_ble_eq_true rfl) hv h (fun y h1 => (zin_ok (hy_X8_beginCounts hX) bk_X8_beginCounts (fun t f hf => by
      cases hf) ((e_X8_beginCounts _ _).symm.trans h1)))
  · cases h
/-! SleepWaves$Forecast.restart()V -/
def q_X2_restart_18 : List zEnt := zE 18 .return_ 1 :: []
def q_X2_restart_15 : List zEnt := zEc 15 (.invokevirtual 35) 3 71 1 91 1 :: q_X2_restart_18
def q_X2_restart_11 : List zEnt := zE 11 (.aload_n 0) 1 :: zEf 12 (.getfield 12) 3 2 1 128 (2, 8, 5) :: q_X2_restart_15
def q_X2_restart_8 : List zEnt := zEc 8 (.invokevirtual 31) 3 72 2 90 1 :: q_X2_restart_11
def q_X2_restart_0 : List zEnt := zE 0 (.aload_n 0) 1 :: zEf 1 (.getfield 12) 3 2 1 128 (2, 8, 5) :: zE 4 (.aload_n 0) 1 :: zEf 5 (.getfield 28) 3 2 0 127 (2, 8, 0) :: q_X2_restart_8
def b_X2_restart : List (Nat × List zEnt) := [(0, q_X2_restart_0)]
theorem bk_X2_restart : zchB 15 b_X2_restart = true := by decide +kernel
noncomputable def cc_X2_restart {ρ : Type} : Nat → zH → List zAV → (zH → zAV → Option ρ) → Option ρ := fun n σ av q => if n = 72 then g_X8_copyFrom σ av q else if n = 71 then g_X8_beginCounts σ av q else none
theorem cs_X2_restart {ρ : Type} {X : zX} (hX : zHX X) : zCS X (cc_X2_restart (ρ := ρ)) := by
  intro n σ av q r h hv
  unfold cc_X2_restart at h
  by_cases e_X8_copyFrom : n = 72
  · rw [if_pos e_X8_copyFrom] at h
    subst e_X8_copyFrom
    exact c_X8_copyFrom hX h hv
  rw [if_neg e_X8_copyFrom] at h
  by_cases e_X8_beginCounts : n = 71
  · rw [if_pos e_X8_beginCounts] at h
    subst e_X8_beginCounts
    exact c_X8_beginCounts hX h hv
  rw [if_neg e_X8_beginCounts] at h
  cases h
theorem cl_X2_restart_X8_copyFrom {ρ : Type} (σ : zH) (av : List zAV) (q : zH → zAV → Option ρ) : cc_X2_restart 72 σ av q = g_X8_copyFrom σ av q := rfl
theorem cl_X2_restart_X8_beginCounts {ρ : Type} (σ : zH) (av : List zAV) (q : zH → zAV → Option ρ) : cc_X2_restart 71 σ av q = g_X8_beginCounts σ av q := rfl
theorem hy_X2_restart {ρ : Type} {X : zX} (hX : zHX X) : zHY X 15 (cc_X2_restart (ρ := ρ)) := zHX.hY hX (cs_X2_restart hX) (zmok_all 15 (by decide))
theorem t_X2_restart_0 {G : Nat → zH → List zAV → List zAV → Option zH} (es : List zEnt) (σ : zH)    : zev cc_X2_restart G 9 krV (zE 0 (.aload_n 0) 1 :: zEf 1 (.getfield 12) 3 2 1 128 (2, 8, 5) :: zE 4 (.aload_n 0) 1 :: zEf 5 (.getfield 28) 3 2 0 127 (2, 8, 0) :: es) σ [vR 2 0] [] = zev cc_X2_restart G 9 krV es σ [vR 2 0] [vR 8 0, vR 8 5] := rfl
theorem t_X2_restart_11 {G : Nat → zH → List zAV → List zAV → Option zH} (es : List zEnt) (σ : zH)    : zev cc_X2_restart G 9 krV (zE 11 (.aload_n 0) 1 :: zEf 12 (.getfield 12) 3 2 1 128 (2, 8, 5) :: es) σ [vR 2 0] [] = zev cc_X2_restart G 9 krV es σ [vR 2 0] [vR 8 5] := rfl
noncomputable def d_X2_restart (σ : zH)  : Option zH :=
  (d_X8_copyFrom σ 5 0).bind fun σ1 =>
  (d_X8_beginCounts σ1 5).bind fun σ2 =>
  some σ2
theorem e_X2_restart (σ : zH)  : d_X2_restart σ = zin cc_X2_restart (fun t => none) 9 krV b_X2_restart 0 σ [vR 2 0] [] := by
  unfold d_X2_restart
  refine Eq.symm ((zin_b (es := q_X2_restart_0) rfl).trans ?_)
  refine (t_X2_restart_0 _ _).trans ?_
  refine (x_callV rfl rfl rfl rfl).trans ((cl_X2_restart_X8_copyFrom _ _ _).trans ((gr_X8_copyFrom _ _ _ _).trans (pbd fun _ => ?_)))
  refine (t_X2_restart_11 _ _).trans ?_
  refine (x_callV rfl rfl rfl rfl).trans ((cl_X2_restart_X8_beginCounts _ _ _).trans ((gr_X8_beginCounts _ _ _).trans (pbd fun _ => ?_)))
  exact x_vret
noncomputable def g_X2_restart {ρ : Type} (σ : zH) (av : List zAV) (q : zH → zAV → Option ρ) : Option ρ := match av with
  | [.inr (.inr (.inl (2, 0)))] => (d_X2_restart σ).bind fun σ => q σ vU
  | _ => none
theorem gr_X2_restart {ρ : Type} (σ : zH)  (q : zH → zAV → Option ρ) : g_X2_restart σ [vR 2 0] q = (d_X2_restart σ).bind fun σ => q σ vU := rfl
theorem c_X2_restart {ρ : Type} {X : zX} (hX : zHX X) {σ : zH} {av : List zAV} {q : zH → zAV → Option ρ} {r : ρ} (h : g_X2_restart σ av q = some r) (hv : ∀ a ∈ av, zval X a) : zcon X 15 σ av q r := by
  unfold g_X2_restart at h
  split at h
  · exact zcon_V (n := 15) (ml := 1) (rc := 9) (st := 0) (kd := 2) (np := 0) (by decide +kernel) rfl ⟨_, _, rfl, rfl⟩ (Nat.le_of_ble_eq_true rfl) hv h (fun y h1 => (zin_ok (hy_X2_restart hX) bk_X2_restart (fun t f hf => by
      cases hf) ((e_X2_restart _).symm.trans h1)))
  · cases h
/-! SleepWaves$Forecast.keep(III)V -/
def q_X2_keep_21 : List zEnt := zE 21 .return_ 1 :: []
def q_X2_keep_20 : List zEnt := zE 20 .iastore 1 :: q_X2_keep_21
def q_X2_keep_14 : List zEnt := zE 14 (.aload_n 0) 1 :: zEf 15 (.getfield 25) 3 2 4 131 (2, 22, 0) :: zEk 18 (.iconst 2) 1 2 :: zE 19 (.iload_n 3) 1 :: q_X2_keep_20
def q_X2_keep_13 : List zEnt := zE 13 .iastore 1 :: q_X2_keep_14
def q_X2_keep_7 : List zEnt := zE 7 (.aload_n 0) 1 :: zEf 8 (.getfield 25) 3 2 4 131 (2, 22, 0) :: zEk 11 (.iconst 1) 1 1 :: zE 12 (.iload_n 2) 1 :: q_X2_keep_13
def q_X2_keep_6 : List zEnt := zE 6 .iastore 1 :: q_X2_keep_7
def q_X2_keep_0 : List zEnt := zE 0 (.aload_n 0) 1 :: zEf 1 (.getfield 25) 3 2 4 131 (2, 22, 0) :: zEk 4 (.iconst 0) 1 0 :: zE 5 (.iload_n 1) 1 :: q_X2_keep_6
def b_X2_keep : List (Nat × List zEnt) := [(0, q_X2_keep_0)]
theorem bk_X2_keep : zchB 16 b_X2_keep = true := by decide +kernel
theorem hy_X2_keep {ρ : Type} {X : zX} (hX : zHX X) : zHY X 16 (zc0 (ρ := ρ)) := zHX.hY hX (zc0_ok X) (zmok_all 16 (by decide))
theorem t_X2_keep_0 {G : Nat → zH → List zAV → List zAV → Option zH} (es : List zEnt) (σ : zH) (x1 : Int32) (x2 : Int32) (x3 : Int32)  (w4 : Int32) : zev zc0 G 9 krV (zE 0 (.aload_n 0) 1 :: zEf 1 (.getfield 25) 3 2 4 131 (2, 22, 0) :: zEk 4 (.iconst 0) 1 w4 :: zE 5 (.iload_n 1) 1 :: es) σ [vR 2 0, vI x1, vI x2, vI x3] [] = zev zc0 G 9 krV es σ [vR 2 0, vI x1, vI x2, vI x3] [vI x1, vI w4, vR 22 0] := rfl
theorem t_X2_keep_7 {G : Nat → zH → List zAV → List zAV → Option zH} (es : List zEnt) (σ : zH) (x2 : Int32) (x3 : Int32) (y1 : zAV) (w11 : Int32) : zev zc0 G 9 krV (zE 7 (.aload_n 0) 1 :: zEf 8 (.getfield 25) 3 2 4 131 (2, 22, 0) :: zEk 11 (.iconst 1) 1 w11 :: zE 12 (.iload_n 2) 1 :: es) σ [vR 2 0, y1, vI x2, vI x3] [] = zev zc0 G 9 krV es σ [vR 2 0, y1, vI x2, vI x3] [vI x2, vI w11, vR 22 0] := rfl
theorem t_X2_keep_14 {G : Nat → zH → List zAV → List zAV → Option zH} (es : List zEnt) (σ : zH) (x3 : Int32) (y1 : zAV) (y2 : zAV) (w18 : Int32) : zev zc0 G 9 krV (zE 14 (.aload_n 0) 1 :: zEf 15 (.getfield 25) 3 2 4 131 (2, 22, 0) :: zEk 18 (.iconst 2) 1 w18 :: zE 19 (.iload_n 3) 1 :: es) σ [vR 2 0, y1, y2, vI x3] [] = zev zc0 G 9 krV es σ [vR 2 0, y1, y2, vI x3] [vI x3, vI w18, vR 22 0] := rfl
noncomputable def d_X2_keep (σ : zH) (xa1 : Int32) (xa2 : Int32) (xa3 : Int32) : Option zH :=
  zlet (uI σ 22 0 0 xa1) fun σ1 =>
  zlet (uI σ1 22 0 1 xa2) fun σ2 =>
  zlet (uI σ2 22 0 2 xa3) fun σ3 =>
  some σ3
theorem e_X2_keep (σ : zH) (xa1 : Int32) (xa2 : Int32) (xa3 : Int32) : d_X2_keep σ xa1 xa2 xa3 = zin zc0 (fun t => none) 9 krV b_X2_keep 0 σ [vR 2 0, vI xa1, vI xa2, vI xa3] [] := by
  unfold d_X2_keep
  refine Eq.symm ((zin_b (es := q_X2_keep_0) rfl).trans ?_)
  refine (t_X2_keep_0 _ _ _ _ _ _).trans ?_
  refine (x_iast (N := 3) rfl rfl).trans ((ix_l 0 (by decide +kernel)).trans (plt fun _ => ?_))
  refine (t_X2_keep_7 _ _ _ _ _ _).trans ?_
  refine (x_iast (N := 3) rfl rfl).trans ((ix_l 1 (by decide +kernel)).trans (plt fun _ => ?_))
  refine (t_X2_keep_14 _ _ _ _ _ _).trans ?_
  refine (x_iast (N := 3) rfl rfl).trans ((ix_l 2 (by decide +kernel)).trans (plt fun _ => ?_))
  exact x_vret
noncomputable def g_X2_keep {ρ : Type} (σ : zH) (av : List zAV) (q : zH → zAV → Option ρ) : Option ρ := match av with
  | [.inr (.inr (.inl (2, 0))), .inl xa1, .inl xa2, .inl xa3] => (d_X2_keep σ xa1 xa2 xa3).bind fun σ => q σ vU
  | _ => none
theorem gr_X2_keep {ρ : Type} (σ : zH) (xa1 : Int32) (xa2 : Int32) (xa3 : Int32) (q : zH → zAV → Option ρ) : g_X2_keep σ [vR 2 0, vI xa1, vI xa2, vI xa3] q = (d_X2_keep σ xa1 xa2 xa3).bind fun σ => q σ vU := rfl
theorem c_X2_keep {ρ : Type} {X : zX} (hX : zHX X) {σ : zH} {av : List zAV} {q : zH → zAV → Option ρ} {r : ρ} (h : g_X2_keep σ av q = some r) (hv : ∀ a ∈ av, zval X a) : zcon X 16 σ av q r := by
  unfold g_X2_keep at h
  split at h
  · exact zcon_V (n := 16) (ml := 4) (rc := 9) (st := 0) (kd := 2) (np := 3) (by decide +kernel) rfl ⟨_, _, rfl, rfl⟩ (Nat.le_of_ble_eq_true rfl) hv h (fun y h1 => (zin_ok (hy_X2_keep hX) bk_X2_keep (fun t f hf => by
      cases hf) ((e_X2_keep _ _ _ _).symm.trans h1)))
  · cases h
/-! SleepWaves$State.isAsleep(I)Z -/
def q_X8_isAsleep_12 : List zEnt := zEa 12 (.goto 4) 3 16 :: []
def q_X8_isAsleep_11 : List zEnt := zEk 11 (.iconst 1) 1 1 :: q_X8_isAsleep_12
def q_X8_isAsleep_8 : List zEnt := zEa 8 (.ifCond .eq 7) 3 15 :: q_X8_isAsleep_11
def q_X8_isAsleep_0 : List zEnt := zE 0 (.aload_n 0) 1 :: zEf 1 (.getfield 54) 3 8 4 96 (0, 0, 0) :: zE 4 (.iload_n 1) 1 :: zE 5 .ishr 1 :: zEk 6 (.iconst 1) 1 1 :: zE 7 .iand 1 :: q_X8_isAsleep_8
def q_X8_isAsleep_16 : List zEnt := zE 16 .ireturn 1 :: []
def q_X8_isAsleep_15 : List zEnt := zEk 15 (.iconst 0) 1 0 :: q_X8_isAsleep_16
def b_X8_isAsleep : List (Nat × List zEnt) := [(0, q_X8_isAsleep_0), (15, q_X8_isAsleep_15), (16, q_X8_isAsleep_16)]
theorem bk_X8_isAsleep : zchB 73 b_X8_isAsleep = true := by decide +kernel
theorem hy_X8_isAsleep {ρ : Type} {X : zX} (hX : zHX X) : zHY X 73 (zc0 (ρ := ρ)) := zHX.hY hX (zc0_ok X) (zmok_all 73 (by decide))
theorem t_X8_isAsleep_0 {G : Nat → zH → List zAV → List zAV → Option (zH × Int32)} (es : List zEnt) (σ : zH) (i0 : Nat) (x1 : Int32)  (w6 : Int32) : zev zc0 G 1 krI (zE 0 (.aload_n 0) 1 :: zEf 1 (.getfield 54) 3 8 4 96 (0, 0, 0) :: zE 4 (.iload_n 1) 1 :: zE 5 .ishr 1 :: zEk 6 (.iconst 1) 1 w6 :: zE 7 .iand 1 :: es) σ [vR 8 i0, vI x1] [] = zev zc0 G 1 krI es σ [vR 8 i0, vI x1] [vI (((σ.1 8 i0 4) >>> (x1 &&& 31)) &&& w6)] := rfl
theorem t_X8_isAsleep_11 {G : Nat → zH → List zAV → List zAV → Option (zH × Int32)} (es : List zEnt) (σ : zH)  (y0 : zAV) (y1 : zAV) (w11 : Int32) : zev zc0 G 1 krI (zEk 11 (.iconst 1) 1 w11 :: es) σ [y0, y1] [] = zev zc0 G 1 krI es σ [y0, y1] [vI w11] := rfl
theorem t_X8_isAsleep_15 {G : Nat → zH → List zAV → List zAV → Option (zH × Int32)} (es : List zEnt) (σ : zH)  (y0 : zAV) (y1 : zAV) (w15 : Int32) : zev zc0 G 1 krI (zEk 15 (.iconst 0) 1 w15 :: es) σ [y0, y1] [] = zev zc0 G 1 krI es σ [y0, y1] [vI w15] := rfl
noncomputable def d_X8_isAsleep (σ : zH) (ia0 : Nat) (xa1 : Int32) : Option (zH × Int32) :=
  if (((σ.1 8 ia0 4) >>> (xa1 &&& 31)) &&& (1 : Int32)) = 0 then
    some (σ, (0 : Int32))
  else
    some (σ, (1 : Int32))
theorem e_X8_isAsleep (σ : zH) (ia0 : Nat) (xa1 : Int32) : d_X8_isAsleep σ ia0 xa1 = zin zc0 (fun t => none) 1 krI b_X8_isAsleep 0 σ [vR 8 ia0, vI xa1] [] := by
  unfold d_X8_isAsleep
  refine Eq.symm ((zin_b (es := q_X8_isAsleep_0) rfl).trans ?_)
  refine (t_X8_isAsleep_0 _ _ _ _ _).trans ?_
  refine x_if.trans (pif_eq ?_ ?_)
  · refine (zrun_b (es := q_X8_isAsleep_15) rfl rfl).trans ?_
    refine (t_X8_isAsleep_15 _ _ _ _ _).trans ?_
    exact x_zret.trans (tv_l (by decide +kernel))
  · refine (t_X8_isAsleep_11 _ _ _ _ _).trans ?_
    refine x_goto.trans ?_
    refine (zrun_b (es := q_X8_isAsleep_16) rfl rfl).trans ?_
    exact x_zret.trans (tv_l (by decide +kernel))
noncomputable def g_X8_isAsleep {ρ : Type} (σ : zH) (av : List zAV) (q : zH → zAV → Option ρ) : Option ρ := match av with
  | [.inr (.inr (.inl (8, ia0))), .inl xa1] => (d_X8_isAsleep σ ia0 xa1).bind fun p => q p.1 (vI p.2)
  | _ => none
theorem gr_X8_isAsleep {ρ : Type} (σ : zH) (ia0 : Nat) (xa1 : Int32) (q : zH → zAV → Option ρ) : g_X8_isAsleep σ [vR 8 ia0, vI xa1] q = (d_X8_isAsleep σ ia0 xa1).bind fun p => q p.1 (vI p.2) := rfl
theorem c_X8_isAsleep {ρ : Type} {X : zX} (hX : zHX X) {σ : zH} {av : List zAV} {q : zH → zAV → Option ρ} {r : ρ} (h : g_X8_isAsleep σ av q = some r) (hv : ∀ a ∈ av, zval X a) : zcon X 73 σ av q r := by
  unfold g_X8_isAsleep at h
  split at h
  · exact zcon_I (n := 73) (ml := 2) (rc := 1) (st := 0) (kd := 8) (np := 1) (by decide +kernel) (by decide) ⟨_, _, rfl, rfl⟩ (Nat.le_of_ble_eq_true rfl) hv h (fun y h1 => (zin_ok (hy_X8_isAsleep hX) bk_X8_isAsleep (fun t f hf => by
      cases hf) ((e_X8_isAsleep _ _ _).symm.trans h1)))
  · cases h
/-! SleepWaves$State.bedIsTaken(I)Z -/
def q_X8_bedIsTaken_0 : List zEnt := zEk 0 (.iconst 0) 1 0 :: zE 1 (.istore_n 2) 1 :: [zE 2 .nop 0]
def q_X8_bedIsTaken_48 : List zEnt := zE 48 .ireturn 1 :: []
def q_X8_bedIsTaken_47 : List zEnt := zEk 47 (.iconst 1) 1 1 :: q_X8_bedIsTaken_48
def q_X8_bedIsTaken_44 : List zEnt := zEa 44 (.if_icmp .ne 5) 3 49 :: q_X8_bedIsTaken_47
def q_X8_bedIsTaken_43 : List zEnt := zE 43 .iaload 1 :: q_X8_bedIsTaken_44
def q_X8_bedIsTaken_35 : List zEnt := zE 35 (.aload_n 0) 1 :: zEf 36 (.getfield 12) 3 8 0 84 (1, 0, 1) :: zEf 39 (.getfield 96) 3 0 3 48 (1, 14, 0) :: zE 42 (.iload_n 1) 1 :: q_X8_bedIsTaken_43
def q_X8_bedIsTaken_34 : List zEnt := zE 34 .iaload 1 :: q_X8_bedIsTaken_35
def q_X8_bedIsTaken_26 : List zEnt := zE 26 (.aload_n 0) 1 :: zEf 27 (.getfield 12) 3 8 0 84 (1, 0, 1) :: zEf 30 (.getfield 96) 3 0 3 48 (1, 14, 0) :: zE 33 (.iload_n 2) 1 :: q_X8_bedIsTaken_34
def q_X8_bedIsTaken_23 : List zEnt := zEa 23 (.ifCond .eq 26) 3 49 :: q_X8_bedIsTaken_26
def q_X8_bedIsTaken_20 : List zEnt := zEc 20 (.invokevirtual 92) 3 73 2 54 0 :: q_X8_bedIsTaken_23
def q_X8_bedIsTaken_18 : List zEnt := zE 18 (.aload_n 0) 1 :: zE 19 (.iload_n 2) 1 :: q_X8_bedIsTaken_20
def q_X8_bedIsTaken_15 : List zEnt := zEa 15 (.if_icmp .eq 34) 3 49 :: q_X8_bedIsTaken_18
def q_X8_bedIsTaken_13 : List zEnt := zE 13 (.iload_n 2) 1 :: zE 14 (.iload_n 1) 1 :: q_X8_bedIsTaken_15
def q_X8_bedIsTaken_10 : List zEnt := zEa 10 (.if_icmp .ge 45) 3 55 :: q_X8_bedIsTaken_13
def q_X8_bedIsTaken_2 : List zEnt := zE 2 (.iload_n 2) 1 :: zE 3 (.aload_n 0) 1 :: zEf 4 (.getfield 12) 3 8 0 84 (1, 0, 1) :: zEf 7 (.getfield 74) 3 0 0 31 (0, 0, 0) :: q_X8_bedIsTaken_10
def q_X8_bedIsTaken_52 : List zEnt := zEa 52 (.goto (-50)) 3 2 :: []
def q_X8_bedIsTaken_49 : List zEnt := zEk 49 (.iinc 2 1) 3 1 :: q_X8_bedIsTaken_52
def q_X8_bedIsTaken_56 : List zEnt := zE 56 .ireturn 1 :: []
def q_X8_bedIsTaken_55 : List zEnt := zEk 55 (.iconst 0) 1 0 :: q_X8_bedIsTaken_56
def b_X8_bedIsTaken : List (Nat × List zEnt) := [(0, q_X8_bedIsTaken_0), (2, q_X8_bedIsTaken_2), (49, q_X8_bedIsTaken_49), (55, q_X8_bedIsTaken_55)]
theorem bk_X8_bedIsTaken : zchB 76 b_X8_bedIsTaken = true := by decide +kernel
noncomputable def cc_X8_bedIsTaken {ρ : Type} : Nat → zH → List zAV → (zH → zAV → Option ρ) → Option ρ := fun n σ av q => if n = 73 then g_X8_isAsleep σ av q else none
theorem cs_X8_bedIsTaken {ρ : Type} {X : zX} (hX : zHX X) : zCS X (cc_X8_bedIsTaken (ρ := ρ)) := by
  intro n σ av q r h hv
  unfold cc_X8_bedIsTaken at h
  by_cases e_X8_isAsleep : n = 73
  · rw [if_pos e_X8_isAsleep] at h
    subst e_X8_isAsleep
    exact c_X8_isAsleep hX h hv
  rw [if_neg e_X8_isAsleep] at h
  cases h
theorem cl_X8_bedIsTaken_X8_isAsleep {ρ : Type} (σ : zH) (av : List zAV) (q : zH → zAV → Option ρ) : cc_X8_bedIsTaken 73 σ av q = g_X8_isAsleep σ av q := rfl
theorem hy_X8_bedIsTaken {ρ : Type} {X : zX} (hX : zHX X) : zHY X 76 (cc_X8_bedIsTaken (ρ := ρ)) := zHX.hY hX (cs_X8_bedIsTaken hX) (zmok_all 76 (by decide))
def gl_X8_bedIsTaken_2 {ρ : Type} (f : zH → Nat → Int32 → Int32 → Option ρ) (σ : zH) (L st : List zAV) : Option ρ := match L, st with
  | [.inr (.inr (.inl (8, i0))), .inl x1, .inl x2], [] => f σ i0 x1 x2
  | _, _ => none
theorem glr_X8_bedIsTaken_2 {ρ : Type} (f : zH → Nat → Int32 → Int32 → Option ρ) (σ : zH) (i0 : Nat) (x1 : Int32) (x2 : Int32)  : gl_X8_bedIsTaken_2 f σ [vR 8 i0, vI x1, vI x2] [] = f σ i0 x1 x2 := rfl
theorem t_X8_bedIsTaken_0 {G : Nat → zH → List zAV → List zAV → Option (zH × Int32)} (es : List zEnt) (σ : zH) (i0 : Nat) (x1 : Int32) (y2 : zAV) (w0 : Int32) : zev cc_X8_bedIsTaken G 1 krI (zEk 0 (.iconst 0) 1 w0 :: zE 1 (.istore_n 2) 1 :: es) σ [vR 8 i0, vI x1, y2] [] = zev cc_X8_bedIsTaken G 1 krI es σ [vR 8 i0, vI x1, vI w0] [] := rfl
theorem t_X8_bedIsTaken_2 {G : Nat → zH → List zAV → List zAV → Option (zH × Int32)} (es : List zEnt) (σ : zH) (i0 : Nat) (x1 : Int32) (x2 : Int32)   : zev cc_X8_bedIsTaken G 1 krI (zE 2 (.iload_n 2) 1 :: zE 3 (.aload_n 0) 1 :: zEf 4 (.getfield 12) 3 8 0 84 (1, 0, 1) :: zEf 7 (.getfield 74) 3 0 0 31 (0, 0, 0) :: es) σ [vR 8 i0, vI x1, vI x2] [] = zev cc_X8_bedIsTaken G 1 krI es σ [vR 8 i0, vI x1, vI x2] [vI (σ.1 0 (i0 + 1) 0), vI x2] := rfl
theorem t_X8_bedIsTaken_13 {G : Nat → zH → List zAV → List zAV → Option (zH × Int32)} (es : List zEnt) (σ : zH) (i0 : Nat) (x1 : Int32) (x2 : Int32)   : zev cc_X8_bedIsTaken G 1 krI (zE 13 (.iload_n 2) 1 :: zE 14 (.iload_n 1) 1 :: es) σ [vR 8 i0, vI x1, vI x2] [] = zev cc_X8_bedIsTaken G 1 krI es σ [vR 8 i0, vI x1, vI x2] [vI x1, vI x2] := rfl
theorem t_X8_bedIsTaken_18 {G : Nat → zH → List zAV → List zAV → Option (zH × Int32)} (es : List zEnt) (σ : zH) (i0 : Nat) (x1 : Int32) (x2 : Int32)   : zev cc_X8_bedIsTaken G 1 krI (zE 18 (.aload_n 0) 1 :: zE 19 (.iload_n 2) 1 :: es) σ [vR 8 i0, vI x1, vI x2] [] = zev cc_X8_bedIsTaken G 1 krI es σ [vR 8 i0, vI x1, vI x2] [vI x2, vR 8 i0] := rfl
theorem t_X8_bedIsTaken_26 {G : Nat → zH → List zAV → List zAV → Option (zH × Int32)} (es : List zEnt) (σ : zH) (i0 : Nat) (x1 : Int32) (x2 : Int32)   : zev cc_X8_bedIsTaken G 1 krI (zE 26 (.aload_n 0) 1 :: zEf 27 (.getfield 12) 3 8 0 84 (1, 0, 1) :: zEf 30 (.getfield 96) 3 0 3 48 (1, 14, 0) :: zE 33 (.iload_n 2) 1 :: es) σ [vR 8 i0, vI x1, vI x2] [] = zev cc_X8_bedIsTaken G 1 krI es σ [vR 8 i0, vI x1, vI x2] [vI x2, vR 14 ((i0 + 1) + 0)] := rfl
theorem t_X8_bedIsTaken_35 {G : Nat → zH → List zAV → List zAV → Option (zH × Int32)} (es : List zEnt) (σ : zH) (i0 : Nat) (x1 : Int32) (x2 : Int32) (xs0 : Int32)   : zev cc_X8_bedIsTaken G 1 krI (zE 35 (.aload_n 0) 1 :: zEf 36 (.getfield 12) 3 8 0 84 (1, 0, 1) :: zEf 39 (.getfield 96) 3 0 3 48 (1, 14, 0) :: zE 42 (.iload_n 1) 1 :: es) σ [vR 8 i0, vI x1, vI x2] [vI xs0] = zev cc_X8_bedIsTaken G 1 krI es σ [vR 8 i0, vI x1, vI x2] [vI x1, vR 14 ((i0 + 1) + 0), vI xs0] := rfl
theorem t_X8_bedIsTaken_47 {G : Nat → zH → List zAV → List zAV → Option (zH × Int32)} (es : List zEnt) (σ : zH)  (y0 : zAV) (y1 : zAV) (y2 : zAV) (w47 : Int32) : zev cc_X8_bedIsTaken G 1 krI (zEk 47 (.iconst 1) 1 w47 :: es) σ [y0, y1, y2] [] = zev cc_X8_bedIsTaken G 1 krI es σ [y0, y1, y2] [vI w47] := rfl
theorem t_X8_bedIsTaken_49 {G : Nat → zH → List zAV → List zAV → Option (zH × Int32)} (es : List zEnt) (σ : zH) (i0 : Nat) (x1 : Int32) (x2 : Int32)  (w49 : Int32) : zev cc_X8_bedIsTaken G 1 krI (zEk 49 (.iinc 2 1) 3 w49 :: es) σ [vR 8 i0, vI x1, vI x2] [] = zev cc_X8_bedIsTaken G 1 krI es σ [vR 8 i0, vI x1, vI (x2 + w49)] [] := rfl
theorem t_X8_bedIsTaken_55 {G : Nat → zH → List zAV → List zAV → Option (zH × Int32)} (es : List zEnt) (σ : zH)  (y0 : zAV) (y1 : zAV) (y2 : zAV) (w55 : Int32) : zev cc_X8_bedIsTaken G 1 krI (zEk 55 (.iconst 0) 1 w55 :: es) σ [y0, y1, y2] [] = zev cc_X8_bedIsTaken G 1 krI es σ [y0, y1, y2] [vI w55] := rfl
noncomputable def k_X8_bedIsTaken_2  : Nat → zH → Nat → Int32 → Int32 → Option (zH × Int32)
  | 0, _, _, _, _ => none
  | n + 1, σ, i0, x1, x2 =>
    if x2 < (σ.1 0 (i0 + 1) 0) then
      if x2 = x1 then
        (k_X8_bedIsTaken_2 n) σ i0 x1 (x2 + (1 : Int32))
      else
        (d_X8_isAsleep σ i0 x2).bind fun p1 =>
        if p1.2 = 0 then
          (k_X8_bedIsTaken_2 n) p1.1 i0 x1 (x2 + (1 : Int32))
        else
          ix x2 12 fun j2 =>
          ix x1 12 fun j3 =>
          if (p1.1.1 14 ((i0 + 1) + 0) j2) = (p1.1.1 14 ((i0 + 1) + 0) j3) then
            some (p1.1, (1 : Int32))
          else
            (k_X8_bedIsTaken_2 n) p1.1 i0 x1 (x2 + (1 : Int32))
    else
      some (σ, (0 : Int32))
theorem e_X8_bedIsTaken_2  (n : Nat) (σ : zH) (i0 : Nat) (x1 : Int32) (x2 : Int32)  : k_X8_bedIsTaken_2 (n + 1) σ i0 x1 x2 = zin cc_X8_bedIsTaken (fun t => if t = 2 then some (gl_X8_bedIsTaken_2 (k_X8_bedIsTaken_2 n)) else none) 1 krI b_X8_bedIsTaken 2 σ [vR 8 i0, vI x1, vI x2] [] := by
  rw [k_X8_bedIsTaken_2]
  refine Eq.symm ((zin_b (es := q_X8_bedIsTaken_2) rfl).trans ?_)
  refine (t_X8_bedIsTaken_2 _ _ _ _ _).trans ?_
  refine x_icmp.trans (pif_ge ?_ ?_)
  · refine (zrun_b (es := q_X8_bedIsTaken_55) rfl rfl).trans ?_
    refine (t_X8_bedIsTaken_55 _ _ _ _ _ _).trans ?_
    exact x_zret.trans (tv_l (by decide +kernel))
  · refine (t_X8_bedIsTaken_13 _ _ _ _ _).trans ?_
    refine x_icmp.trans (pif_eq ?_ ?_)
    · refine (zrun_b (es := q_X8_bedIsTaken_49) rfl rfl).trans ?_
      refine (t_X8_bedIsTaken_49 _ _ _ _ _ _).trans ?_
      refine x_goto.trans ?_
      exact (zrun_c rfl).trans (glr_X8_bedIsTaken_2 _ _ _ _ _)
    · refine (t_X8_bedIsTaken_18 _ _ _ _ _).trans ?_
      refine (x_callV rfl rfl rfl rfl).trans ((cl_X8_bedIsTaken_X8_isAsleep _ _ _).trans ((gr_X8_isAsleep _ _ _ _).trans (pbd fun _ => ?_)))
      refine x_if.trans (pif_eq ?_ ?_)
      · refine (zrun_b (es := q_X8_bedIsTaken_49) rfl rfl).trans ?_
        refine (t_X8_bedIsTaken_49 _ _ _ _ _ _).trans ?_
        refine x_goto.trans ?_
        exact (zrun_c rfl).trans (glr_X8_bedIsTaken_2 _ _ _ _ _)
      · refine (t_X8_bedIsTaken_26 _ _ _ _ _).trans ?_
        refine (x_iald (N := 12) rfl rfl).trans (pix fun _ => ?_)
        refine (t_X8_bedIsTaken_35 _ _ _ _ _ _).trans ?_
        refine (x_iald (N := 12) rfl rfl).trans (pix fun _ => ?_)
        refine x_icmp.trans (pif_ne ?_ ?_)
        · refine (zrun_b (es := q_X8_bedIsTaken_49) rfl rfl).trans ?_
          refine (t_X8_bedIsTaken_49 _ _ _ _ _ _).trans ?_
          refine x_goto.trans ?_
          exact (zrun_c rfl).trans (glr_X8_bedIsTaken_2 _ _ _ _ _)
        · refine (t_X8_bedIsTaken_47 _ _ _ _ _ _).trans ?_
          exact x_zret.trans (tv_l (by decide +kernel))
theorem s_X8_bedIsTaken_2 {X : zX} (hX : zHX X)   : ∀ n σ L st r, gl_X8_bedIsTaken_2 (k_X8_bedIsTaken_2 n) σ L st = some r → zGW X 76 krI 2 σ L st r := by
  intro n
  induction n with
  | zero =>
    intro σ L st r h
    unfold gl_X8_bedIsTaken_2 at h
    split at h <;> cases h
  | succ n ih =>
    intro σ L st r h
    unfold gl_X8_bedIsTaken_2 at h
    split at h
    · exact zin_ok (hy_X8_bedIsTaken hX) bk_X8_bedIsTaken (fun t f hf => by
      by_cases e2 : t = 2
      · rw [if_pos e2] at hf; subst e2; cases hf; exact ih
      rw [if_neg e2] at hf
      cases hf) ((e_X8_bedIsTaken_2 _ _ _ _ _).symm.trans h)
    · cases h
noncomputable def d_X8_bedIsTaken (σ : zH) (ia0 : Nat) (xa1 : Int32) : Option (zH × Int32) :=
  (k_X8_bedIsTaken_2 zN) σ ia0 xa1 (0 : Int32)
theorem e_X8_bedIsTaken (σ : zH) (ia0 : Nat) (xa1 : Int32) : d_X8_bedIsTaken σ ia0 xa1 = zin cc_X8_bedIsTaken (fun t => if t = 2 then some (gl_X8_bedIsTaken_2 (k_X8_bedIsTaken_2 zN)) else none) 1 krI b_X8_bedIsTaken 0 σ [vR 8 ia0, vI xa1, vU] [] := by
  unfold d_X8_bedIsTaken
  refine Eq.symm ((zin_b (es := q_X8_bedIsTaken_0) rfl).trans ?_)
  refine (t_X8_bedIsTaken_0 _ _ _ _ _ _).trans ?_
  refine x_cut.trans ?_
  exact (zrun_c rfl).trans (glr_X8_bedIsTaken_2 _ _ _ _ _)
noncomputable def g_X8_bedIsTaken {ρ : Type} (σ : zH) (av : List zAV) (q : zH → zAV → Option ρ) : Option ρ := match av with
  | [.inr (.inr (.inl (8, ia0))), .inl xa1] => (d_X8_bedIsTaken σ ia0 xa1).bind fun p => q p.1 (vI p.2)
  | _ => none
theorem gr_X8_bedIsTaken {ρ : Type} (σ : zH) (ia0 : Nat) (xa1 : Int32) (q : zH → zAV → Option ρ) : g_X8_bedIsTaken σ [vR 8 ia0, vI xa1] q = (d_X8_bedIsTaken σ ia0 xa1).bind fun p => q p.1 (vI p.2) := rfl
theorem c_X8_bedIsTaken {ρ : Type} {X : zX} (hX : zHX X) {σ : zH} {av : List zAV} {q : zH → zAV → Option ρ} {r : ρ} (h : g_X8_bedIsTaken σ av q = some r) (hv : ∀ a ∈ av, zval X a) : zcon X 76 σ av q r := by
  unfold g_X8_bedIsTaken at h
  split at h
  · exact zcon_I (n := 76) (ml := 3) (rc := 1) (st := 0) (kd := 8) (np := 1) (by decide +kernel) (by decide) ⟨_, _, rfl, rfl⟩ (Nat.le_of_ble_eq_true rfl) hv h (fun y h1 => (zin_ok (hy_X8_bedIsTaken hX) bk_X8_bedIsTaken (fun t f hf => by
      by_cases e2 : t = 2
      · rw [if_pos e2] at hf; subst e2; cases hf; exact ((fun σ L st r h => s_X8_bedIsTaken_2 hX  zN σ L st r h))
      rw [if_neg e2] at hf
      cases hf) ((e_X8_bedIsTaken _ _ _).symm.trans h1)))
  · cases h
/-! SleepWaves$State.valueOf(II)I -/
def q_X8_valueOf_1 : List zEnt := (1, (.tableswitch 147 0 9 #[55, 63, 71, 78, 85, 87, 97, 107, 112, 137]), 55, (148, 0, 0, 0), (0, 0, 0), 0, 0, [(0, 56), (1, 64), (2, 72), (3, 79), (4, 86), (5, 88), (6, 98), (7, 108), (8, 113), (9, 138)]) :: []
def q_X8_valueOf_0 : List zEnt := zE 0 (.iload_n 1) 1 :: q_X8_valueOf_1
def q_X8_valueOf_63 : List zEnt := zE 63 .ireturn 1 :: []
def q_X8_valueOf_62 : List zEnt := zE 62 .irem 1 :: q_X8_valueOf_63
def q_X8_valueOf_56 : List zEnt := zE 56 (.aload_n 0) 1 :: zEf 57 (.getfield 48) 3 8 1 88 (0, 0, 0) :: zEk 60 (.bipush 96) 2 96 :: q_X8_valueOf_62
def q_X8_valueOf_71 : List zEnt := zE 71 .ireturn 1 :: []
def q_X8_valueOf_70 : List zEnt := zE 70 .idiv 1 :: q_X8_valueOf_71
def q_X8_valueOf_64 : List zEnt := zE 64 (.aload_n 0) 1 :: zEf 65 (.getfield 48) 3 8 1 88 (0, 0, 0) :: zEk 68 (.bipush 96) 2 96 :: q_X8_valueOf_70
def q_X8_valueOf_78 : List zEnt := zE 78 .ireturn 1 :: []
def q_X8_valueOf_77 : List zEnt := zE 77 .iaload 1 :: q_X8_valueOf_78
def q_X8_valueOf_72 : List zEnt := zE 72 (.aload_n 0) 1 :: zEf 73 (.getfield 18) 3 8 6 100 (1, 31, 0) :: zE 76 (.iload_n 2) 1 :: q_X8_valueOf_77
def q_X8_valueOf_85 : List zEnt := zE 85 .ireturn 1 :: []
def q_X8_valueOf_84 : List zEnt := zE 84 .iaload 1 :: q_X8_valueOf_85
def q_X8_valueOf_79 : List zEnt := zE 79 (.aload_n 0) 1 :: zEf 80 (.getfield 22) 3 8 7 102 (1, 32, 0) :: zE 83 (.iload_n 2) 1 :: q_X8_valueOf_84
def q_X8_valueOf_87 : List zEnt := zE 87 .ireturn 1 :: []
def q_X8_valueOf_86 : List zEnt := zE 86 (.iload_n 2) 1 :: q_X8_valueOf_87
def q_X8_valueOf_97 : List zEnt := zE 97 .ireturn 1 :: []
def q_X8_valueOf_96 : List zEnt := zE 96 .iaload 1 :: q_X8_valueOf_97
def q_X8_valueOf_88 : List zEnt := zE 88 (.aload_n 0) 1 :: zEf 89 (.getfield 12) 3 8 0 84 (1, 0, 1) :: zEf 92 (.getfield 99) 3 0 1 38 (1, 12, 0) :: zE 95 (.iload_n 2) 1 :: q_X8_valueOf_96
def q_X8_valueOf_107 : List zEnt := zE 107 .ireturn 1 :: []
def q_X8_valueOf_106 : List zEnt := zE 106 .iaload 1 :: q_X8_valueOf_107
def q_X8_valueOf_98 : List zEnt := zE 98 (.aload_n 0) 1 :: zEf 99 (.getfield 12) 3 8 0 84 (1, 0, 1) :: zEf 102 (.getfield 157) 3 0 2 44 (1, 13, 0) :: zE 105 (.iload_n 2) 1 :: q_X8_valueOf_106
def q_X8_valueOf_112 : List zEnt := zE 112 .ireturn 1 :: []
def q_X8_valueOf_108 : List zEnt := zE 108 (.aload_n 0) 1 :: zEf 109 (.getfield 65) 3 8 5 98 (0, 0, 0) :: q_X8_valueOf_112
def q_X8_valueOf_122 : List zEnt := zEa 122 (.goto 15) 3 137 :: []
def q_X8_valueOf_121 : List zEnt := zEk 121 (.iconst 0) 1 0 :: q_X8_valueOf_122
def q_X8_valueOf_118 : List zEnt := zEa 118 (.if_icmp .ne 7) 3 125 :: q_X8_valueOf_121
def q_X8_valueOf_113 : List zEnt := zE 113 (.aload_n 0) 1 :: zEf 114 (.getfield 41) 3 8 16 122 (0, 0, 0) :: zEk 117 (.iconst (-1)) 1 (-1) :: q_X8_valueOf_118
def q_X8_valueOf_137 : List zEnt := zE 137 .ireturn 1 :: []
def q_X8_valueOf_136 : List zEnt := zE 136 .iaload 1 :: q_X8_valueOf_137
def q_X8_valueOf_125 : List zEnt := zE 125 (.aload_n 0) 1 :: zEf 126 (.getfield 12) 3 8 0 84 (1, 0, 1) :: zEf 129 (.getfield 171) 3 0 7 63 (1, 17, 0) :: zE 132 (.aload_n 0) 1 :: zEf 133 (.getfield 41) 3 8 16 122 (0, 0, 0) :: q_X8_valueOf_136
def q_X8_valueOf_147 : List zEnt := zE 147 .ireturn 1 :: []
def q_X8_valueOf_146 : List zEnt := zE 146 .iaload 1 :: q_X8_valueOf_147
def q_X8_valueOf_138 : List zEnt := zE 138 (.aload_n 0) 1 :: zEf 139 (.getfield 12) 3 8 0 84 (1, 0, 1) :: zEf 142 (.getfield 148) 3 0 4 54 (1, 15, 0) :: zE 145 (.iload_n 2) 1 :: q_X8_valueOf_146
def q_X8_valueOf_149 : List zEnt := zE 149 .ireturn 1 :: []
def q_X8_valueOf_148 : List zEnt := zEk 148 (.iconst 0) 1 0 :: q_X8_valueOf_149
def b_X8_valueOf : List (Nat × List zEnt) := [(0, q_X8_valueOf_0), (56, q_X8_valueOf_56), (64, q_X8_valueOf_64), (72, q_X8_valueOf_72), (79, q_X8_valueOf_79), (86, q_X8_valueOf_86), (88, q_X8_valueOf_88), (98, q_X8_valueOf_98), (108, q_X8_valueOf_108), (113, q_X8_valueOf_113), (125, q_X8_valueOf_125), (137, q_X8_valueOf_137), (138, q_X8_valueOf_138), (148, q_X8_valueOf_148)]
theorem bk_X8_valueOf : zchB 89 b_X8_valueOf = true := by decide +kernel
theorem hy_X8_valueOf {ρ : Type} {X : zX} (hX : zHX X) : zHY X 89 (zc0 (ρ := ρ)) := zHX.hY hX (zc0_ok X) (zmok_all 89 (by decide))
theorem t_X8_valueOf_0 {G : Nat → zH → List zAV → List zAV → Option (zH × Int32)} (es : List zEnt) (σ : zH) (i0 : Nat) (x1 : Int32) (x2 : Int32)   : zev zc0 G 0 krI (zE 0 (.iload_n 1) 1 :: es) σ [vR 8 i0, vI x1, vI x2] [] = zev zc0 G 0 krI es σ [vR 8 i0, vI x1, vI x2] [vI x1] := rfl
theorem t_X8_valueOf_56 {G : Nat → zH → List zAV → List zAV → Option (zH × Int32)} (es : List zEnt) (σ : zH) (i0 : Nat) (y1 : zAV) (y2 : zAV) (w60 : Int32) : zev zc0 G 0 krI (zE 56 (.aload_n 0) 1 :: zEf 57 (.getfield 48) 3 8 1 88 (0, 0, 0) :: zEk 60 (.bipush 96) 2 w60 :: es) σ [vR 8 i0, y1, y2] [] = zev zc0 G 0 krI es σ [vR 8 i0, y1, y2] [vI w60, vI (σ.1 8 i0 1)] := rfl
theorem t_X8_valueOf_64 {G : Nat → zH → List zAV → List zAV → Option (zH × Int32)} (es : List zEnt) (σ : zH) (i0 : Nat) (y1 : zAV) (y2 : zAV) (w68 : Int32) : zev zc0 G 0 krI (zE 64 (.aload_n 0) 1 :: zEf 65 (.getfield 48) 3 8 1 88 (0, 0, 0) :: zEk 68 (.bipush 96) 2 w68 :: es) σ [vR 8 i0, y1, y2] [] = zev zc0 G 0 krI es σ [vR 8 i0, y1, y2] [vI w68, vI (σ.1 8 i0 1)] := rfl
theorem t_X8_valueOf_72 {G : Nat → zH → List zAV → List zAV → Option (zH × Int32)} (es : List zEnt) (σ : zH) (i0 : Nat) (x2 : Int32) (y1 : zAV)  : zev zc0 G 0 krI (zE 72 (.aload_n 0) 1 :: zEf 73 (.getfield 18) 3 8 6 100 (1, 31, 0) :: zE 76 (.iload_n 2) 1 :: es) σ [vR 8 i0, y1, vI x2] [] = zev zc0 G 0 krI es σ [vR 8 i0, y1, vI x2] [vI x2, vR 31 (i0 + 0)] := rfl
theorem t_X8_valueOf_79 {G : Nat → zH → List zAV → List zAV → Option (zH × Int32)} (es : List zEnt) (σ : zH) (i0 : Nat) (x2 : Int32) (y1 : zAV)  : zev zc0 G 0 krI (zE 79 (.aload_n 0) 1 :: zEf 80 (.getfield 22) 3 8 7 102 (1, 32, 0) :: zE 83 (.iload_n 2) 1 :: es) σ [vR 8 i0, y1, vI x2] [] = zev zc0 G 0 krI es σ [vR 8 i0, y1, vI x2] [vI x2, vR 32 (i0 + 0)] := rfl
theorem t_X8_valueOf_86 {G : Nat → zH → List zAV → List zAV → Option (zH × Int32)} (es : List zEnt) (σ : zH) (x2 : Int32) (y0 : zAV) (y1 : zAV)  : zev zc0 G 0 krI (zE 86 (.iload_n 2) 1 :: es) σ [y0, y1, vI x2] [] = zev zc0 G 0 krI es σ [y0, y1, vI x2] [vI x2] := rfl
theorem t_X8_valueOf_88 {G : Nat → zH → List zAV → List zAV → Option (zH × Int32)} (es : List zEnt) (σ : zH) (i0 : Nat) (x2 : Int32) (y1 : zAV)  : zev zc0 G 0 krI (zE 88 (.aload_n 0) 1 :: zEf 89 (.getfield 12) 3 8 0 84 (1, 0, 1) :: zEf 92 (.getfield 99) 3 0 1 38 (1, 12, 0) :: zE 95 (.iload_n 2) 1 :: es) σ [vR 8 i0, y1, vI x2] [] = zev zc0 G 0 krI es σ [vR 8 i0, y1, vI x2] [vI x2, vR 12 ((i0 + 1) + 0)] := rfl
theorem t_X8_valueOf_98 {G : Nat → zH → List zAV → List zAV → Option (zH × Int32)} (es : List zEnt) (σ : zH) (i0 : Nat) (x2 : Int32) (y1 : zAV)  : zev zc0 G 0 krI (zE 98 (.aload_n 0) 1 :: zEf 99 (.getfield 12) 3 8 0 84 (1, 0, 1) :: zEf 102 (.getfield 157) 3 0 2 44 (1, 13, 0) :: zE 105 (.iload_n 2) 1 :: es) σ [vR 8 i0, y1, vI x2] [] = zev zc0 G 0 krI es σ [vR 8 i0, y1, vI x2] [vI x2, vR 13 ((i0 + 1) + 0)] := rfl
theorem t_X8_valueOf_108 {G : Nat → zH → List zAV → List zAV → Option (zH × Int32)} (es : List zEnt) (σ : zH) (i0 : Nat) (y1 : zAV) (y2 : zAV)  : zev zc0 G 0 krI (zE 108 (.aload_n 0) 1 :: zEf 109 (.getfield 65) 3 8 5 98 (0, 0, 0) :: es) σ [vR 8 i0, y1, y2] [] = zev zc0 G 0 krI es σ [vR 8 i0, y1, y2] [vI (σ.1 8 i0 5)] := rfl
theorem t_X8_valueOf_113 {G : Nat → zH → List zAV → List zAV → Option (zH × Int32)} (es : List zEnt) (σ : zH) (i0 : Nat) (y1 : zAV) (y2 : zAV) (w117 : Int32) : zev zc0 G 0 krI (zE 113 (.aload_n 0) 1 :: zEf 114 (.getfield 41) 3 8 16 122 (0, 0, 0) :: zEk 117 (.iconst (-1)) 1 w117 :: es) σ [vR 8 i0, y1, y2] [] = zev zc0 G 0 krI es σ [vR 8 i0, y1, y2] [vI w117, vI (σ.1 8 i0 16)] := rfl
theorem t_X8_valueOf_121 {G : Nat → zH → List zAV → List zAV → Option (zH × Int32)} (es : List zEnt) (σ : zH)  (y0 : zAV) (y1 : zAV) (y2 : zAV) (w121 : Int32) : zev zc0 G 0 krI (zEk 121 (.iconst 0) 1 w121 :: es) σ [y0, y1, y2] [] = zev zc0 G 0 krI es σ [y0, y1, y2] [vI w121] := rfl
theorem t_X8_valueOf_125 {G : Nat → zH → List zAV → List zAV → Option (zH × Int32)} (es : List zEnt) (σ : zH) (i0 : Nat) (y1 : zAV) (y2 : zAV)  : zev zc0 G 0 krI (zE 125 (.aload_n 0) 1 :: zEf 126 (.getfield 12) 3 8 0 84 (1, 0, 1) :: zEf 129 (.getfield 171) 3 0 7 63 (1, 17, 0) :: zE 132 (.aload_n 0) 1 :: zEf 133 (.getfield 41) 3 8 16 122 (0, 0, 0) :: es) σ [vR 8 i0, y1, y2] [] = zev zc0 G 0 krI es σ [vR 8 i0, y1, y2] [vI (σ.1 8 i0 16), vR 17 ((i0 + 1) + 0)] := rfl
theorem t_X8_valueOf_138 {G : Nat → zH → List zAV → List zAV → Option (zH × Int32)} (es : List zEnt) (σ : zH) (i0 : Nat) (x2 : Int32) (y1 : zAV)  : zev zc0 G 0 krI (zE 138 (.aload_n 0) 1 :: zEf 139 (.getfield 12) 3 8 0 84 (1, 0, 1) :: zEf 142 (.getfield 148) 3 0 4 54 (1, 15, 0) :: zE 145 (.iload_n 2) 1 :: es) σ [vR 8 i0, y1, vI x2] [] = zev zc0 G 0 krI es σ [vR 8 i0, y1, vI x2] [vI x2, vR 15 ((i0 + 1) + 0)] := rfl
theorem t_X8_valueOf_148 {G : Nat → zH → List zAV → List zAV → Option (zH × Int32)} (es : List zEnt) (σ : zH)  (y0 : zAV) (y1 : zAV) (y2 : zAV) (w148 : Int32) : zev zc0 G 0 krI (zEk 148 (.iconst 0) 1 w148 :: es) σ [y0, y1, y2] [] = zev zc0 G 0 krI es σ [y0, y1, y2] [vI w148] := rfl
noncomputable def d_X8_valueOf (σ : zH) (ia0 : Nat) (xa1 : Int32) (xa2 : Int32) : Option (zH × Int32) :=
  if xa1 = (0 : Int32) then
    some (σ, ((σ.1 8 ia0 1) - (σ.1 8 ia0 1) / (96 : Int32) * (96 : Int32)))
  else if xa1 = (1 : Int32) then
    some (σ, ((σ.1 8 ia0 1) / (96 : Int32)))
  else if xa1 = (2 : Int32) then
    ix xa2 12 fun j1 =>
    some (σ, (σ.1 31 (ia0 + 0) j1))
  else if xa1 = (3 : Int32) then
    ix xa2 12 fun j2 =>
    some (σ, (σ.1 32 (ia0 + 0) j2))
  else if xa1 = (4 : Int32) then
    some (σ, xa2)
  else if xa1 = (5 : Int32) then
    ix xa2 12 fun j3 =>
    some (σ, (σ.1 12 ((ia0 + 1) + 0) j3))
  else if xa1 = (6 : Int32) then
    ix xa2 12 fun j4 =>
    some (σ, (σ.1 13 ((ia0 + 1) + 0) j4))
  else if xa1 = (7 : Int32) then
    some (σ, (σ.1 8 ia0 5))
  else if xa1 = (8 : Int32) then
    if (σ.1 8 ia0 16) = (-1 : Int32) then
      some (σ, (0 : Int32))
    else
      ix (σ.1 8 ia0 16) 8 fun j5 =>
      some (σ, (σ.1 17 ((ia0 + 1) + 0) j5))
  else if xa1 = (9 : Int32) then
    ix xa2 12 fun j6 =>
    some (σ, (σ.1 15 ((ia0 + 1) + 0) j6))
  else 
    some (σ, (0 : Int32))
theorem e_X8_valueOf (σ : zH) (ia0 : Nat) (xa1 : Int32) (xa2 : Int32) : d_X8_valueOf σ ia0 xa1 xa2 = zin zc0 (fun t => none) 0 krI b_X8_valueOf 0 σ [vR 8 ia0, vI xa1, vI xa2] [] := by
  unfold d_X8_valueOf
  refine Eq.symm ((zin_b (es := q_X8_valueOf_0) rfl).trans ?_)
  refine (t_X8_valueOf_0 _ _ _ _ _).trans ?_
  refine x_tsw.trans ?_
  refine zsw_c ?_ ?_
  · refine (zrun_b (es := q_X8_valueOf_56) rfl rfl).trans ?_
    refine (t_X8_valueOf_56 _ _ _ _ _ _).trans ?_
    refine (x_irem.trans (nz_l (by decide +kernel))).trans ?_
    exact x_iret
  refine zsw_c ?_ ?_
  · refine (zrun_b (es := q_X8_valueOf_64) rfl rfl).trans ?_
    refine (t_X8_valueOf_64 _ _ _ _ _ _).trans ?_
    refine (x_idiv.trans (nz_l (by decide +kernel))).trans ?_
    exact x_iret
  refine zsw_c ?_ ?_
  · refine (zrun_b (es := q_X8_valueOf_72) rfl rfl).trans ?_
    refine (t_X8_valueOf_72 _ _ _ _ _).trans ?_
    refine (x_iald (N := 12) rfl rfl).trans (pix fun _ => ?_)
    exact x_iret
  refine zsw_c ?_ ?_
  · refine (zrun_b (es := q_X8_valueOf_79) rfl rfl).trans ?_
    refine (t_X8_valueOf_79 _ _ _ _ _).trans ?_
    refine (x_iald (N := 12) rfl rfl).trans (pix fun _ => ?_)
    exact x_iret
  refine zsw_c ?_ ?_
  · refine (zrun_b (es := q_X8_valueOf_86) rfl rfl).trans ?_
    refine (t_X8_valueOf_86 _ _ _ _ _).trans ?_
    exact x_iret
  refine zsw_c ?_ ?_
  · refine (zrun_b (es := q_X8_valueOf_88) rfl rfl).trans ?_
    refine (t_X8_valueOf_88 _ _ _ _ _).trans ?_
    refine (x_iald (N := 12) rfl rfl).trans (pix fun _ => ?_)
    exact x_iret
  refine zsw_c ?_ ?_
  · refine (zrun_b (es := q_X8_valueOf_98) rfl rfl).trans ?_
    refine (t_X8_valueOf_98 _ _ _ _ _).trans ?_
    refine (x_iald (N := 12) rfl rfl).trans (pix fun _ => ?_)
    exact x_iret
  refine zsw_c ?_ ?_
  · refine (zrun_b (es := q_X8_valueOf_108) rfl rfl).trans ?_
    refine (t_X8_valueOf_108 _ _ _ _ _).trans ?_
    exact x_iret
  refine zsw_c ?_ ?_
  · refine (zrun_b (es := q_X8_valueOf_113) rfl rfl).trans ?_
    refine (t_X8_valueOf_113 _ _ _ _ _ _).trans ?_
    refine x_icmp.trans (pif_ne ?_ ?_)
    · refine (zrun_b (es := q_X8_valueOf_125) rfl rfl).trans ?_
      refine (t_X8_valueOf_125 _ _ _ _ _).trans ?_
      refine (x_iald (N := 8) rfl rfl).trans (pix fun _ => ?_)
      exact x_iret
    · refine (t_X8_valueOf_121 _ _ _ _ _ _).trans ?_
      refine x_goto.trans ?_
      refine (zrun_b (es := q_X8_valueOf_137) rfl rfl).trans ?_
      exact x_iret
  refine zsw_c ?_ ?_
  · refine (zrun_b (es := q_X8_valueOf_138) rfl rfl).trans ?_
    refine (t_X8_valueOf_138 _ _ _ _ _).trans ?_
    refine (x_iald (N := 12) rfl rfl).trans (pix fun _ => ?_)
    exact x_iret
  refine zsw_n ?_
  refine (zrun_b (es := q_X8_valueOf_148) rfl rfl).trans ?_
  refine (t_X8_valueOf_148 _ _ _ _ _ _).trans ?_
  exact x_iret
noncomputable def g_X8_valueOf {ρ : Type} (σ : zH) (av : List zAV) (q : zH → zAV → Option ρ) : Option ρ := match av with
  | [.inr (.inr (.inl (8, ia0))), .inl xa1, .inl xa2] => (d_X8_valueOf σ ia0 xa1 xa2).bind fun p => q p.1 (vI p.2)
  | _ => none
theorem gr_X8_valueOf {ρ : Type} (σ : zH) (ia0 : Nat) (xa1 : Int32) (xa2 : Int32) (q : zH → zAV → Option ρ) : g_X8_valueOf σ [vR 8 ia0, vI xa1, vI xa2] q = (d_X8_valueOf σ ia0 xa1 xa2).bind fun p => q p.1 (vI p.2) := rfl
theorem c_X8_valueOf {ρ : Type} {X : zX} (hX : zHX X) {σ : zH} {av : List zAV} {q : zH → zAV → Option ρ} {r : ρ} (h : g_X8_valueOf σ av q = some r) (hv : ∀ a ∈ av, zval X a) : zcon X 89 σ av q r := by
  unfold g_X8_valueOf at h
  split at h
  · exact zcon_I (n := 89) (ml := 3) (rc := 0) (st := 0) (kd := 8) (np := 2) (by decide +kernel) (by decide) ⟨_, _, rfl, rfl⟩ (Nat.le_of_ble_eq_true rfl) hv h (fun y h1 => (zin_ok (hy_X8_valueOf hX) bk_X8_valueOf (fun t f hf => by
      cases hf) ((e_X8_valueOf _ _ _ _).symm.trans h1)))
  · cases h
/-! SleepWaves$Law.combine(IJJ)J -/
def q_X4_combine_1 : List zEnt := (1, (.lookupswitch 215 #[(10, 211), (20, 207), (40, 147), (41, 159), (42, 171), (43, 183), (44, 195), (50, 139), (51, 143), (60, 107), (61, 111), (62, 125)]), 107, (216, 0, 0, 0), (0, 0, 0), 0, 0, [(10, 212), (20, 208), (40, 148), (41, 160), (42, 172), (43, 184), (44, 196), (50, 140), (51, 144), (60, 108), (61, 112), (62, 126)]) :: []
def q_X4_combine_0 : List zEnt := zE 0 (.iload_n 0) 1 :: q_X4_combine_1
def q_X4_combine_111 : List zEnt := zE 111 .lreturn 1 :: []
def q_X4_combine_108 : List zEnt := zE 108 (.lload_n 1) 1 :: zE 109 (.lload_n 3) 1 :: zE 110 .lmul 1 :: q_X4_combine_111
def q_X4_combine_119 : List zEnt := zEa 119 (.goto 6) 3 125 :: []
def q_X4_combine_118 : List zEnt := (118, (.lconst 0), 1, (0, 0, 0, 0), (0, 0, 0), 0, 0, []) :: q_X4_combine_119
def q_X4_combine_115 : List zEnt := zEa 115 (.ifCond .ne 7) 3 122 :: q_X4_combine_118
def q_X4_combine_112 : List zEnt := zE 112 (.lload_n 3) 1 :: (113, (.lconst 0), 1, (0, 0, 0, 0), (0, 0, 0), 0, 0, []) :: zE 114 .lcmp 1 :: q_X4_combine_115
def q_X4_combine_125 : List zEnt := zE 125 .lreturn 1 :: []
def q_X4_combine_124 : List zEnt := zE 124 .ldiv 1 :: q_X4_combine_125
def q_X4_combine_122 : List zEnt := zE 122 (.lload_n 1) 1 :: zE 123 (.lload_n 3) 1 :: q_X4_combine_124
def q_X4_combine_133 : List zEnt := zEa 133 (.goto 6) 3 139 :: []
def q_X4_combine_132 : List zEnt := (132, (.lconst 0), 1, (0, 0, 0, 0), (0, 0, 0), 0, 0, []) :: q_X4_combine_133
def q_X4_combine_129 : List zEnt := zEa 129 (.ifCond .ne 7) 3 136 :: q_X4_combine_132
def q_X4_combine_126 : List zEnt := zE 126 (.lload_n 3) 1 :: (127, (.lconst 0), 1, (0, 0, 0, 0), (0, 0, 0), 0, 0, []) :: zE 128 .lcmp 1 :: q_X4_combine_129
def q_X4_combine_139 : List zEnt := zE 139 .lreturn 1 :: []
def q_X4_combine_138 : List zEnt := zE 138 .lrem 1 :: q_X4_combine_139
def q_X4_combine_136 : List zEnt := zE 136 (.lload_n 1) 1 :: zE 137 (.lload_n 3) 1 :: q_X4_combine_138
def q_X4_combine_143 : List zEnt := zE 143 .lreturn 1 :: []
def q_X4_combine_140 : List zEnt := zE 140 (.lload_n 1) 1 :: zE 141 (.lload_n 3) 1 :: zE 142 .ladd 1 :: q_X4_combine_143
def q_X4_combine_147 : List zEnt := zE 147 .lreturn 1 :: []
def q_X4_combine_144 : List zEnt := zE 144 (.lload_n 1) 1 :: zE 145 (.lload_n 3) 1 :: zE 146 .lsub 1 :: q_X4_combine_147
def q_X4_combine_155 : List zEnt := zEa 155 (.goto 4) 3 159 :: []
def q_X4_combine_154 : List zEnt := (154, (.lconst 1), 1, (0, 0, 0, 0), (0, 0, 0), 0, 1, []) :: q_X4_combine_155
def q_X4_combine_151 : List zEnt := zEa 151 (.ifCond .ge 7) 3 158 :: q_X4_combine_154
def q_X4_combine_148 : List zEnt := zE 148 (.lload_n 1) 1 :: zE 149 (.lload_n 3) 1 :: zE 150 .lcmp 1 :: q_X4_combine_151
def q_X4_combine_159 : List zEnt := zE 159 .lreturn 1 :: []
def q_X4_combine_158 : List zEnt := (158, (.lconst 0), 1, (0, 0, 0, 0), (0, 0, 0), 0, 0, []) :: q_X4_combine_159
def q_X4_combine_167 : List zEnt := zEa 167 (.goto 4) 3 171 :: []
def q_X4_combine_166 : List zEnt := (166, (.lconst 1), 1, (0, 0, 0, 0), (0, 0, 0), 0, 1, []) :: q_X4_combine_167
def q_X4_combine_163 : List zEnt := zEa 163 (.ifCond .gt 7) 3 170 :: q_X4_combine_166
def q_X4_combine_160 : List zEnt := zE 160 (.lload_n 1) 1 :: zE 161 (.lload_n 3) 1 :: zE 162 .lcmp 1 :: q_X4_combine_163
def q_X4_combine_171 : List zEnt := zE 171 .lreturn 1 :: []
def q_X4_combine_170 : List zEnt := (170, (.lconst 0), 1, (0, 0, 0, 0), (0, 0, 0), 0, 0, []) :: q_X4_combine_171
def q_X4_combine_179 : List zEnt := zEa 179 (.goto 4) 3 183 :: []
def q_X4_combine_178 : List zEnt := (178, (.lconst 1), 1, (0, 0, 0, 0), (0, 0, 0), 0, 1, []) :: q_X4_combine_179
def q_X4_combine_175 : List zEnt := zEa 175 (.ifCond .ne 7) 3 182 :: q_X4_combine_178
def q_X4_combine_172 : List zEnt := zE 172 (.lload_n 1) 1 :: zE 173 (.lload_n 3) 1 :: zE 174 .lcmp 1 :: q_X4_combine_175
def q_X4_combine_183 : List zEnt := zE 183 .lreturn 1 :: []
def q_X4_combine_182 : List zEnt := (182, (.lconst 0), 1, (0, 0, 0, 0), (0, 0, 0), 0, 0, []) :: q_X4_combine_183
def q_X4_combine_191 : List zEnt := zEa 191 (.goto 4) 3 195 :: []
def q_X4_combine_190 : List zEnt := (190, (.lconst 1), 1, (0, 0, 0, 0), (0, 0, 0), 0, 1, []) :: q_X4_combine_191
def q_X4_combine_187 : List zEnt := zEa 187 (.ifCond .lt 7) 3 194 :: q_X4_combine_190
def q_X4_combine_184 : List zEnt := zE 184 (.lload_n 1) 1 :: zE 185 (.lload_n 3) 1 :: zE 186 .lcmp 1 :: q_X4_combine_187
def q_X4_combine_195 : List zEnt := zE 195 .lreturn 1 :: []
def q_X4_combine_194 : List zEnt := (194, (.lconst 0), 1, (0, 0, 0, 0), (0, 0, 0), 0, 0, []) :: q_X4_combine_195
def q_X4_combine_203 : List zEnt := zEa 203 (.goto 4) 3 207 :: []
def q_X4_combine_202 : List zEnt := (202, (.lconst 1), 1, (0, 0, 0, 0), (0, 0, 0), 0, 1, []) :: q_X4_combine_203
def q_X4_combine_199 : List zEnt := zEa 199 (.ifCond .le 7) 3 206 :: q_X4_combine_202
def q_X4_combine_196 : List zEnt := zE 196 (.lload_n 1) 1 :: zE 197 (.lload_n 3) 1 :: zE 198 .lcmp 1 :: q_X4_combine_199
def q_X4_combine_207 : List zEnt := zE 207 .lreturn 1 :: []
def q_X4_combine_206 : List zEnt := (206, (.lconst 0), 1, (0, 0, 0, 0), (0, 0, 0), 0, 0, []) :: q_X4_combine_207
def q_X4_combine_211 : List zEnt := zE 211 .lreturn 1 :: []
def q_X4_combine_208 : List zEnt := zE 208 (.lload_n 1) 1 :: zE 209 (.lload_n 3) 1 :: zE 210 .land 1 :: q_X4_combine_211
def q_X4_combine_215 : List zEnt := zE 215 .lreturn 1 :: []
def q_X4_combine_212 : List zEnt := zE 212 (.lload_n 1) 1 :: zE 213 (.lload_n 3) 1 :: zE 214 .lor 1 :: q_X4_combine_215
def q_X4_combine_217 : List zEnt := zE 217 .lreturn 1 :: []
def q_X4_combine_216 : List zEnt := (216, (.lconst 0), 1, (0, 0, 0, 0), (0, 0, 0), 0, 0, []) :: q_X4_combine_217
def b_X4_combine : List (Nat × List zEnt) := [(0, q_X4_combine_0), (108, q_X4_combine_108), (112, q_X4_combine_112), (122, q_X4_combine_122), (125, q_X4_combine_125), (126, q_X4_combine_126), (136, q_X4_combine_136), (139, q_X4_combine_139), (140, q_X4_combine_140), (144, q_X4_combine_144), (148, q_X4_combine_148), (158, q_X4_combine_158), (159, q_X4_combine_159), (160, q_X4_combine_160), (170, q_X4_combine_170), (171, q_X4_combine_171), (172, q_X4_combine_172), (182, q_X4_combine_182), (183, q_X4_combine_183), (184, q_X4_combine_184), (194, q_X4_combine_194), (195, q_X4_combine_195), (196, q_X4_combine_196), (206, q_X4_combine_206), (207, q_X4_combine_207), (208, q_X4_combine_208), (212, q_X4_combine_212), (216, q_X4_combine_216)]
theorem bk_X4_combine : zchB 38 b_X4_combine = true := by decide +kernel
theorem hy_X4_combine {ρ : Type} {X : zX} (hX : zHX X) : zHY X 38 (zc0 (ρ := ρ)) := zHX.hY hX (zc0_ok X) (zmok_all 38 (by decide))
theorem t_X4_combine_0 {G : Nat → zH → List zAV → List zAV → Option (zH × Int64)} (es : List zEnt) (σ : zH) (x0 : Int32) (z1 : Int64) (z3 : Int64) (y2 : zAV) (y4 : zAV)  : zev zc0 G 3 krL (zE 0 (.iload_n 0) 1 :: es) σ [vI x0, vL z1, y2, vL z3, y4] [] = zev zc0 G 3 krL es σ [vI x0, vL z1, y2, vL z3, y4] [vI x0] := rfl
theorem t_X4_combine_108 {G : Nat → zH → List zAV → List zAV → Option (zH × Int64)} (es : List zEnt) (σ : zH) (z1 : Int64) (z3 : Int64) (y0 : zAV) (y2 : zAV) (y4 : zAV)  : zev zc0 G 3 krL (zE 108 (.lload_n 1) 1 :: zE 109 (.lload_n 3) 1 :: zE 110 .lmul 1 :: es) σ [y0, vL z1, y2, vL z3, y4] [] = zev zc0 G 3 krL es σ [y0, vL z1, y2, vL z3, y4] [vL (z1 * z3)] := rfl
theorem t_X4_combine_112 {G : Nat → zH → List zAV → List zAV → Option (zH × Int64)} (es : List zEnt) (σ : zH) (z1 : Int64) (z3 : Int64) (y0 : zAV) (y2 : zAV) (y4 : zAV) (w113 : Int64) : zev zc0 G 3 krL (zE 112 (.lload_n 3) 1 :: (113, (.lconst 0), 1, (0, 0, 0, 0), (0, 0, 0), 0, w113, []) :: zE 114 .lcmp 1 :: es) σ [y0, vL z1, y2, vL z3, y4] [] = zev zc0 G 3 krL es σ [y0, vL z1, y2, vL z3, y4] [vI (lg_cmp z3 w113)] := rfl
theorem t_X4_combine_118 {G : Nat → zH → List zAV → List zAV → Option (zH × Int64)} (es : List zEnt) (σ : zH)  (y0 : zAV) (y1 : zAV) (y2 : zAV) (y3 : zAV) (y4 : zAV) (w118 : Int64) : zev zc0 G 3 krL ((118, (.lconst 0), 1, (0, 0, 0, 0), (0, 0, 0), 0, w118, []) :: es) σ [y0, y1, y2, y3, y4] [] = zev zc0 G 3 krL es σ [y0, y1, y2, y3, y4] [vL w118] := rfl
theorem t_X4_combine_122 {G : Nat → zH → List zAV → List zAV → Option (zH × Int64)} (es : List zEnt) (σ : zH) (z1 : Int64) (z3 : Int64) (y0 : zAV) (y2 : zAV) (y4 : zAV)  : zev zc0 G 3 krL (zE 122 (.lload_n 1) 1 :: zE 123 (.lload_n 3) 1 :: es) σ [y0, vL z1, y2, vL z3, y4] [] = zev zc0 G 3 krL es σ [y0, vL z1, y2, vL z3, y4] [vL z3, vL z1] := rfl
theorem t_X4_combine_126 {G : Nat → zH → List zAV → List zAV → Option (zH × Int64)} (es : List zEnt) (σ : zH) (z1 : Int64) (z3 : Int64) (y0 : zAV) (y2 : zAV) (y4 : zAV) (w127 : Int64) : zev zc0 G 3 krL (zE 126 (.lload_n 3) 1 :: (127, (.lconst 0), 1, (0, 0, 0, 0), (0, 0, 0), 0, w127, []) :: zE 128 .lcmp 1 :: es) σ [y0, vL z1, y2, vL z3, y4] [] = zev zc0 G 3 krL es σ [y0, vL z1, y2, vL z3, y4] [vI (lg_cmp z3 w127)] := rfl
theorem t_X4_combine_132 {G : Nat → zH → List zAV → List zAV → Option (zH × Int64)} (es : List zEnt) (σ : zH)  (y0 : zAV) (y1 : zAV) (y2 : zAV) (y3 : zAV) (y4 : zAV) (w132 : Int64) : zev zc0 G 3 krL ((132, (.lconst 0), 1, (0, 0, 0, 0), (0, 0, 0), 0, w132, []) :: es) σ [y0, y1, y2, y3, y4] [] = zev zc0 G 3 krL es σ [y0, y1, y2, y3, y4] [vL w132] := rfl
theorem t_X4_combine_136 {G : Nat → zH → List zAV → List zAV → Option (zH × Int64)} (es : List zEnt) (σ : zH) (z1 : Int64) (z3 : Int64) (y0 : zAV) (y2 : zAV) (y4 : zAV)  : zev zc0 G 3 krL (zE 136 (.lload_n 1) 1 :: zE 137 (.lload_n 3) 1 :: es) σ [y0, vL z1, y2, vL z3, y4] [] = zev zc0 G 3 krL es σ [y0, vL z1, y2, vL z3, y4] [vL z3, vL z1] := rfl
theorem t_X4_combine_140 {G : Nat → zH → List zAV → List zAV → Option (zH × Int64)} (es : List zEnt) (σ : zH) (z1 : Int64) (z3 : Int64) (y0 : zAV) (y2 : zAV) (y4 : zAV)  : zev zc0 G 3 krL (zE 140 (.lload_n 1) 1 :: zE 141 (.lload_n 3) 1 :: zE 142 .ladd 1 :: es) σ [y0, vL z1, y2, vL z3, y4] [] = zev zc0 G 3 krL es σ [y0, vL z1, y2, vL z3, y4] [vL (z1 + z3)] := rfl
theorem t_X4_combine_144 {G : Nat → zH → List zAV → List zAV → Option (zH × Int64)} (es : List zEnt) (σ : zH) (z1 : Int64) (z3 : Int64) (y0 : zAV) (y2 : zAV) (y4 : zAV)  : zev zc0 G 3 krL (zE 144 (.lload_n 1) 1 :: zE 145 (.lload_n 3) 1 :: zE 146 .lsub 1 :: es) σ [y0, vL z1, y2, vL z3, y4] [] = zev zc0 G 3 krL es σ [y0, vL z1, y2, vL z3, y4] [vL (z1 - z3)] := rfl
theorem t_X4_combine_148 {G : Nat → zH → List zAV → List zAV → Option (zH × Int64)} (es : List zEnt) (σ : zH) (z1 : Int64) (z3 : Int64) (y0 : zAV) (y2 : zAV) (y4 : zAV)  : zev zc0 G 3 krL (zE 148 (.lload_n 1) 1 :: zE 149 (.lload_n 3) 1 :: zE 150 .lcmp 1 :: es) σ [y0, vL z1, y2, vL z3, y4] [] = zev zc0 G 3 krL es σ [y0, vL z1, y2, vL z3, y4] [vI (lg_cmp z1 z3)] := rfl
theorem t_X4_combine_154 {G : Nat → zH → List zAV → List zAV → Option (zH × Int64)} (es : List zEnt) (σ : zH)  (y0 : zAV) (y1 : zAV) (y2 : zAV) (y3 : zAV) (y4 : zAV) (w154 : Int64) : zev zc0 G 3 krL ((154, (.lconst 1), 1, (0, 0, 0, 0), (0, 0, 0), 0, w154, []) :: es) σ [y0, y1, y2, y3, y4] [] = zev zc0 G 3 krL es σ [y0, y1, y2, y3, y4] [vL w154] := rfl
theorem t_X4_combine_158 {G : Nat → zH → List zAV → List zAV → Option (zH × Int64)} (es : List zEnt) (σ : zH)  (y0 : zAV) (y1 : zAV) (y2 : zAV) (y3 : zAV) (y4 : zAV) (w158 : Int64) : zev zc0 G 3 krL ((158, (.lconst 0), 1, (0, 0, 0, 0), (0, 0, 0), 0, w158, []) :: es) σ [y0, y1, y2, y3, y4] [] = zev zc0 G 3 krL es σ [y0, y1, y2, y3, y4] [vL w158] := rfl
theorem t_X4_combine_160 {G : Nat → zH → List zAV → List zAV → Option (zH × Int64)} (es : List zEnt) (σ : zH) (z1 : Int64) (z3 : Int64) (y0 : zAV) (y2 : zAV) (y4 : zAV)  : zev zc0 G 3 krL (zE 160 (.lload_n 1) 1 :: zE 161 (.lload_n 3) 1 :: zE 162 .lcmp 1 :: es) σ [y0, vL z1, y2, vL z3, y4] [] = zev zc0 G 3 krL es σ [y0, vL z1, y2, vL z3, y4] [vI (lg_cmp z1 z3)] := rfl
theorem t_X4_combine_166 {G : Nat → zH → List zAV → List zAV → Option (zH × Int64)} (es : List zEnt) (σ : zH)  (y0 : zAV) (y1 : zAV) (y2 : zAV) (y3 : zAV) (y4 : zAV) (w166 : Int64) : zev zc0 G 3 krL ((166, (.lconst 1), 1, (0, 0, 0, 0), (0, 0, 0), 0, w166, []) :: es) σ [y0, y1, y2, y3, y4] [] = zev zc0 G 3 krL es σ [y0, y1, y2, y3, y4] [vL w166] := rfl
theorem t_X4_combine_170 {G : Nat → zH → List zAV → List zAV → Option (zH × Int64)} (es : List zEnt) (σ : zH)  (y0 : zAV) (y1 : zAV) (y2 : zAV) (y3 : zAV) (y4 : zAV) (w170 : Int64) : zev zc0 G 3 krL ((170, (.lconst 0), 1, (0, 0, 0, 0), (0, 0, 0), 0, w170, []) :: es) σ [y0, y1, y2, y3, y4] [] = zev zc0 G 3 krL es σ [y0, y1, y2, y3, y4] [vL w170] := rfl
theorem t_X4_combine_172 {G : Nat → zH → List zAV → List zAV → Option (zH × Int64)} (es : List zEnt) (σ : zH) (z1 : Int64) (z3 : Int64) (y0 : zAV) (y2 : zAV) (y4 : zAV)  : zev zc0 G 3 krL (zE 172 (.lload_n 1) 1 :: zE 173 (.lload_n 3) 1 :: zE 174 .lcmp 1 :: es) σ [y0, vL z1, y2, vL z3, y4] [] = zev zc0 G 3 krL es σ [y0, vL z1, y2, vL z3, y4] [vI (lg_cmp z1 z3)] := rfl
theorem t_X4_combine_178 {G : Nat → zH → List zAV → List zAV → Option (zH × Int64)} (es : List zEnt) (σ : zH)  (y0 : zAV) (y1 : zAV) (y2 : zAV) (y3 : zAV) (y4 : zAV) (w178 : Int64) : zev zc0 G 3 krL ((178, (.lconst 1), 1, (0, 0, 0, 0), (0, 0, 0), 0, w178, []) :: es) σ [y0, y1, y2, y3, y4] [] = zev zc0 G 3 krL es σ [y0, y1, y2, y3, y4] [vL w178] := rfl
theorem t_X4_combine_182 {G : Nat → zH → List zAV → List zAV → Option (zH × Int64)} (es : List zEnt) (σ : zH)  (y0 : zAV) (y1 : zAV) (y2 : zAV) (y3 : zAV) (y4 : zAV) (w182 : Int64) : zev zc0 G 3 krL ((182, (.lconst 0), 1, (0, 0, 0, 0), (0, 0, 0), 0, w182, []) :: es) σ [y0, y1, y2, y3, y4] [] = zev zc0 G 3 krL es σ [y0, y1, y2, y3, y4] [vL w182] := rfl
theorem t_X4_combine_184 {G : Nat → zH → List zAV → List zAV → Option (zH × Int64)} (es : List zEnt) (σ : zH) (z1 : Int64) (z3 : Int64) (y0 : zAV) (y2 : zAV) (y4 : zAV)  : zev zc0 G 3 krL (zE 184 (.lload_n 1) 1 :: zE 185 (.lload_n 3) 1 :: zE 186 .lcmp 1 :: es) σ [y0, vL z1, y2, vL z3, y4] [] = zev zc0 G 3 krL es σ [y0, vL z1, y2, vL z3, y4] [vI (lg_cmp z1 z3)] := rfl
theorem t_X4_combine_190 {G : Nat → zH → List zAV → List zAV → Option (zH × Int64)} (es : List zEnt) (σ : zH)  (y0 : zAV) (y1 : zAV) (y2 : zAV) (y3 : zAV) (y4 : zAV) (w190 : Int64) : zev zc0 G 3 krL ((190, (.lconst 1), 1, (0, 0, 0, 0), (0, 0, 0), 0, w190, []) :: es) σ [y0, y1, y2, y3, y4] [] = zev zc0 G 3 krL es σ [y0, y1, y2, y3, y4] [vL w190] := rfl
theorem t_X4_combine_194 {G : Nat → zH → List zAV → List zAV → Option (zH × Int64)} (es : List zEnt) (σ : zH)  (y0 : zAV) (y1 : zAV) (y2 : zAV) (y3 : zAV) (y4 : zAV) (w194 : Int64) : zev zc0 G 3 krL ((194, (.lconst 0), 1, (0, 0, 0, 0), (0, 0, 0), 0, w194, []) :: es) σ [y0, y1, y2, y3, y4] [] = zev zc0 G 3 krL es σ [y0, y1, y2, y3, y4] [vL w194] := rfl
theorem t_X4_combine_196 {G : Nat → zH → List zAV → List zAV → Option (zH × Int64)} (es : List zEnt) (σ : zH) (z1 : Int64) (z3 : Int64) (y0 : zAV) (y2 : zAV) (y4 : zAV)  : zev zc0 G 3 krL (zE 196 (.lload_n 1) 1 :: zE 197 (.lload_n 3) 1 :: zE 198 .lcmp 1 :: es) σ [y0, vL z1, y2, vL z3, y4] [] = zev zc0 G 3 krL es σ [y0, vL z1, y2, vL z3, y4] [vI (lg_cmp z1 z3)] := rfl
theorem t_X4_combine_202 {G : Nat → zH → List zAV → List zAV → Option (zH × Int64)} (es : List zEnt) (σ : zH)  (y0 : zAV) (y1 : zAV) (y2 : zAV) (y3 : zAV) (y4 : zAV) (w202 : Int64) : zev zc0 G 3 krL ((202, (.lconst 1), 1, (0, 0, 0, 0), (0, 0, 0), 0, w202, []) :: es) σ [y0, y1, y2, y3, y4] [] = zev zc0 G 3 krL es σ [y0, y1, y2, y3, y4] [vL w202] := rfl
theorem t_X4_combine_206 {G : Nat → zH → List zAV → List zAV → Option (zH × Int64)} (es : List zEnt) (σ : zH)  (y0 : zAV) (y1 : zAV) (y2 : zAV) (y3 : zAV) (y4 : zAV) (w206 : Int64) : zev zc0 G 3 krL ((206, (.lconst 0), 1, (0, 0, 0, 0), (0, 0, 0), 0, w206, []) :: es) σ [y0, y1, y2, y3, y4] [] = zev zc0 G 3 krL es σ [y0, y1, y2, y3, y4] [vL w206] := rfl
theorem t_X4_combine_208 {G : Nat → zH → List zAV → List zAV → Option (zH × Int64)} (es : List zEnt) (σ : zH) (z1 : Int64) (z3 : Int64) (y0 : zAV) (y2 : zAV) (y4 : zAV)  : zev zc0 G 3 krL (zE 208 (.lload_n 1) 1 :: zE 209 (.lload_n 3) 1 :: zE 210 .land 1 :: es) σ [y0, vL z1, y2, vL z3, y4] [] = zev zc0 G 3 krL es σ [y0, vL z1, y2, vL z3, y4] [vL (z1 &&& z3)] := rfl
theorem t_X4_combine_212 {G : Nat → zH → List zAV → List zAV → Option (zH × Int64)} (es : List zEnt) (σ : zH) (z1 : Int64) (z3 : Int64) (y0 : zAV) (y2 : zAV) (y4 : zAV)  : zev zc0 G 3 krL (zE 212 (.lload_n 1) 1 :: zE 213 (.lload_n 3) 1 :: zE 214 .lor 1 :: es) σ [y0, vL z1, y2, vL z3, y4] [] = zev zc0 G 3 krL es σ [y0, vL z1, y2, vL z3, y4] [vL (z1 ||| z3)] := rfl
theorem t_X4_combine_216 {G : Nat → zH → List zAV → List zAV → Option (zH × Int64)} (es : List zEnt) (σ : zH)  (y0 : zAV) (y1 : zAV) (y2 : zAV) (y3 : zAV) (y4 : zAV) (w216 : Int64) : zev zc0 G 3 krL ((216, (.lconst 0), 1, (0, 0, 0, 0), (0, 0, 0), 0, w216, []) :: es) σ [y0, y1, y2, y3, y4] [] = zev zc0 G 3 krL es σ [y0, y1, y2, y3, y4] [vL w216] := rfl
noncomputable def d_X4_combine (σ : zH) (xa0 : Int32) (za1 : Int64) (za2 : Int64) : Option (zH × Int64) :=
  if xa0 = (10 : Int32) then
    some (σ, (za1 ||| za2))
  else if xa0 = (20 : Int32) then
    some (σ, (za1 &&& za2))
  else if xa0 = (40 : Int32) then
    if (lg_cmp za1 za2) < 0 then
      some (σ, (1 : Int64))
    else
      some (σ, (0 : Int64))
  else if xa0 = (41 : Int32) then
    if (0 : Int32) < (lg_cmp za1 za2) then
      some (σ, (0 : Int64))
    else
      some (σ, (1 : Int64))
  else if xa0 = (42 : Int32) then
    if (lg_cmp za1 za2) = 0 then
      some (σ, (1 : Int64))
    else
      some (σ, (0 : Int64))
  else if xa0 = (43 : Int32) then
    if (lg_cmp za1 za2) < 0 then
      some (σ, (0 : Int64))
    else
      some (σ, (1 : Int64))
  else if xa0 = (44 : Int32) then
    if (0 : Int32) < (lg_cmp za1 za2) then
      some (σ, (1 : Int64))
    else
      some (σ, (0 : Int64))
  else if xa0 = (50 : Int32) then
    some (σ, (za1 + za2))
  else if xa0 = (51 : Int32) then
    some (σ, (za1 - za2))
  else if xa0 = (60 : Int32) then
    some (σ, (za1 * za2))
  else if xa0 = (61 : Int32) then
    if (lg_cmp za2 (0 : Int64)) = 0 then
      some (σ, (0 : Int64))
    else
      nzL za2 <| some (σ, (za1 / za2))
  else if xa0 = (62 : Int32) then
    if (lg_cmp za2 (0 : Int64)) = 0 then
      some (σ, (0 : Int64))
    else
      nzL za2 <| some (σ, (za1 - za1 / za2 * za2))
  else 
    some (σ, (0 : Int64))
theorem e_X4_combine (σ : zH) (xa0 : Int32) (za1 : Int64) (za2 : Int64) : d_X4_combine σ xa0 za1 za2 = zin zc0 (fun t => none) 3 krL b_X4_combine 0 σ [vI xa0, vL za1, vU, vL za2, vU] [] := by
  unfold d_X4_combine
  refine Eq.symm ((zin_b (es := q_X4_combine_0) rfl).trans ?_)
  refine (t_X4_combine_0 _ _ _ _ _ _ _).trans ?_
  refine x_lsw.trans ?_
  refine zsw_c ?_ ?_
  · refine (zrun_b (es := q_X4_combine_212) rfl rfl).trans ?_
    refine (t_X4_combine_212 _ _ _ _ _ _ _).trans ?_
    exact x_lret
  refine zsw_c ?_ ?_
  · refine (zrun_b (es := q_X4_combine_208) rfl rfl).trans ?_
    refine (t_X4_combine_208 _ _ _ _ _ _ _).trans ?_
    exact x_lret
  refine zsw_c ?_ ?_
  · refine (zrun_b (es := q_X4_combine_148) rfl rfl).trans ?_
    refine (t_X4_combine_148 _ _ _ _ _ _ _).trans ?_
    refine x_if.trans (pif_ge ?_ ?_)
    · refine (zrun_b (es := q_X4_combine_158) rfl rfl).trans ?_
      refine (t_X4_combine_158 _ _ _ _ _ _ _ _).trans ?_
      exact x_lret
    · refine (t_X4_combine_154 _ _ _ _ _ _ _ _).trans ?_
      refine x_goto.trans ?_
      refine (zrun_b (es := q_X4_combine_159) rfl rfl).trans ?_
      exact x_lret
  refine zsw_c ?_ ?_
  · refine (zrun_b (es := q_X4_combine_160) rfl rfl).trans ?_
    refine (t_X4_combine_160 _ _ _ _ _ _ _).trans ?_
    refine x_if.trans (pif_gt ?_ ?_)
    · refine (zrun_b (es := q_X4_combine_170) rfl rfl).trans ?_
      refine (t_X4_combine_170 _ _ _ _ _ _ _ _).trans ?_
      exact x_lret
    · refine (t_X4_combine_166 _ _ _ _ _ _ _ _).trans ?_
      refine x_goto.trans ?_
      refine (zrun_b (es := q_X4_combine_171) rfl rfl).trans ?_
      exact x_lret
  refine zsw_c ?_ ?_
  · refine (zrun_b (es := q_X4_combine_172) rfl rfl).trans ?_
    refine (t_X4_combine_172 _ _ _ _ _ _ _).trans ?_
    refine x_if.trans (pif_ne ?_ ?_)
    · refine (zrun_b (es := q_X4_combine_182) rfl rfl).trans ?_
      refine (t_X4_combine_182 _ _ _ _ _ _ _ _).trans ?_
      exact x_lret
    · refine (t_X4_combine_178 _ _ _ _ _ _ _ _).trans ?_
      refine x_goto.trans ?_
      refine (zrun_b (es := q_X4_combine_183) rfl rfl).trans ?_
      exact x_lret
  refine zsw_c ?_ ?_
  · refine (zrun_b (es := q_X4_combine_184) rfl rfl).trans ?_
    refine (t_X4_combine_184 _ _ _ _ _ _ _).trans ?_
    refine x_if.trans (pif_lt ?_ ?_)
    · refine (zrun_b (es := q_X4_combine_194) rfl rfl).trans ?_
      refine (t_X4_combine_194 _ _ _ _ _ _ _ _).trans ?_
      exact x_lret
    · refine (t_X4_combine_190 _ _ _ _ _ _ _ _).trans ?_
      refine x_goto.trans ?_
      refine (zrun_b (es := q_X4_combine_195) rfl rfl).trans ?_
      exact x_lret
  refine zsw_c ?_ ?_
  · refine (zrun_b (es := q_X4_combine_196) rfl rfl).trans ?_
    refine (t_X4_combine_196 _ _ _ _ _ _ _).trans ?_
    refine x_if.trans (pif_le ?_ ?_)
    · refine (zrun_b (es := q_X4_combine_206) rfl rfl).trans ?_
      refine (t_X4_combine_206 _ _ _ _ _ _ _ _).trans ?_
      exact x_lret
    · refine (t_X4_combine_202 _ _ _ _ _ _ _ _).trans ?_
      refine x_goto.trans ?_
      refine (zrun_b (es := q_X4_combine_207) rfl rfl).trans ?_
      exact x_lret
  refine zsw_c ?_ ?_
  · refine (zrun_b (es := q_X4_combine_140) rfl rfl).trans ?_
    refine (t_X4_combine_140 _ _ _ _ _ _ _).trans ?_
    exact x_lret
  refine zsw_c ?_ ?_
  · refine (zrun_b (es := q_X4_combine_144) rfl rfl).trans ?_
    refine (t_X4_combine_144 _ _ _ _ _ _ _).trans ?_
    exact x_lret
  refine zsw_c ?_ ?_
  · refine (zrun_b (es := q_X4_combine_108) rfl rfl).trans ?_
    refine (t_X4_combine_108 _ _ _ _ _ _ _).trans ?_
    exact x_lret
  refine zsw_c ?_ ?_
  · refine (zrun_b (es := q_X4_combine_112) rfl rfl).trans ?_
    refine (t_X4_combine_112 _ _ _ _ _ _ _ _).trans ?_
    refine x_if.trans (pif_ne ?_ ?_)
    · refine (zrun_b (es := q_X4_combine_122) rfl rfl).trans ?_
      refine (t_X4_combine_122 _ _ _ _ _ _ _).trans ?_
      refine x_ldiv.trans (pnl ?_)
      exact x_lret
    · refine (t_X4_combine_118 _ _ _ _ _ _ _ _).trans ?_
      refine x_goto.trans ?_
      refine (zrun_b (es := q_X4_combine_125) rfl rfl).trans ?_
      exact x_lret
  refine zsw_c ?_ ?_
  · refine (zrun_b (es := q_X4_combine_126) rfl rfl).trans ?_
    refine (t_X4_combine_126 _ _ _ _ _ _ _ _).trans ?_
    refine x_if.trans (pif_ne ?_ ?_)
    · refine (zrun_b (es := q_X4_combine_136) rfl rfl).trans ?_
      refine (t_X4_combine_136 _ _ _ _ _ _ _).trans ?_
      refine x_lrem.trans (pnl ?_)
      exact x_lret
    · refine (t_X4_combine_132 _ _ _ _ _ _ _ _).trans ?_
      refine x_goto.trans ?_
      refine (zrun_b (es := q_X4_combine_139) rfl rfl).trans ?_
      exact x_lret
  refine zsw_n ?_
  refine (zrun_b (es := q_X4_combine_216) rfl rfl).trans ?_
  refine (t_X4_combine_216 _ _ _ _ _ _ _ _).trans ?_
  exact x_lret
noncomputable def g_X4_combine {ρ : Type} (σ : zH) (av : List zAV) (q : zH → zAV → Option ρ) : Option ρ := match av with
  | [.inl xa0, .inr (.inl za1), .inr (.inl za2)] => (d_X4_combine σ xa0 za1 za2).bind fun p => q p.1 (vL p.2)
  | _ => none
theorem gr_X4_combine {ρ : Type} (σ : zH) (xa0 : Int32) (za1 : Int64) (za2 : Int64) (q : zH → zAV → Option ρ) : g_X4_combine σ [vI xa0, vL za1, vL za2] q = (d_X4_combine σ xa0 za1 za2).bind fun p => q p.1 (vL p.2) := rfl
theorem c_X4_combine {ρ : Type} {X : zX} (hX : zHX X) {σ : zH} {av : List zAV} {q : zH → zAV → Option ρ} {r : ρ} (h : g_X4_combine σ av q = some r) (hv : ∀ a ∈ av, zval X a) : zcon X 38 σ av q r := by
  unfold g_X4_combine at h
  split at h
  · exact zcon_L (n := 38) (ml := 5) (rc := 3) (st := 1) (kd := 4) (np := 3) (by decide +kernel) (by decide) rfl (Nat.le_of_ble_eq_true rfl) hv h (fun y h1 => (zin_ok (hy_X4_combine hX) bk_X4_combine (fun t f hf => by
      cases hf) ((e_X4_combine _ _ _ _).symm.trans h1)))
  · cases h
/-! SleepWaves$Law.clauseHolds(ILSleepWaves$State;I)Z -/
def q_X4_clauseHolds_9 : List zEnt := zE 9 (.istore 5) 2 :: [zE 11 .nop 0]
def q_X4_clauseHolds_8 : List zEnt := zE 8 .iaload 1 :: q_X4_clauseHolds_9
def q_X4_clauseHolds_0 : List zEnt := zEk 0 (.iconst 0) 1 0 :: zE 1 (.istore 4) 2 :: zE 3 (.aload_n 0) 1 :: zEf 4 (.getfield 13) 3 4 2 79 (1, 25, 0) :: zE 7 (.iload_n 1) 1 :: q_X4_clauseHolds_8
def q_X4_clauseHolds_44 : List zEnt := zEa 44 (.if_icmp .ne 56) 3 100 :: [zE 47 .nop 0]
def q_X4_clauseHolds_40 : List zEnt := zE 40 (.iload 6) 2 :: zEk 42 (.bipush 71) 2 71 :: q_X4_clauseHolds_44
def q_X4_clauseHolds_37 : List zEnt := zEa 37 (.if_icmp .eq 10) 3 47 :: q_X4_clauseHolds_40
def q_X4_clauseHolds_31 : List zEnt := zE 31 (.istore 6) 2 :: zE 33 (.iload 6) 2 :: zEk 35 (.bipush 70) 2 70 :: q_X4_clauseHolds_37
def q_X4_clauseHolds_30 : List zEnt := zE 30 .iaload 1 :: q_X4_clauseHolds_31
def q_X4_clauseHolds_24 : List zEnt := zE 24 (.aload_n 0) 1 :: zEf 25 (.getfield 19) 3 4 4 81 (1, 26, 0) :: zE 28 (.iload 5) 2 :: q_X4_clauseHolds_30
def q_X4_clauseHolds_21 : List zEnt := zEa 21 (.if_icmp .ge 164) 3 185 :: q_X4_clauseHolds_24
def q_X4_clauseHolds_20 : List zEnt := zE 20 .iaload 1 :: q_X4_clauseHolds_21
def q_X4_clauseHolds_11 : List zEnt := zE 11 (.iload 5) 2 :: zE 13 (.aload_n 0) 1 :: zEf 14 (.getfield 13) 3 4 2 79 (1, 25, 0) :: zE 17 (.iload_n 1) 1 :: zEk 18 (.iconst 1) 1 1 :: zE 19 .iadd 1 :: q_X4_clauseHolds_20
def q_X4_clauseHolds_55 : List zEnt := zE 55 .ireturn 1 :: []
def q_X4_clauseHolds_54 : List zEnt := zEk 54 (.iconst 0) 1 0 :: q_X4_clauseHolds_55
def q_X4_clauseHolds_51 : List zEnt := zEa 51 (.if_icmp .lt 5) 3 56 :: q_X4_clauseHolds_54
def q_X4_clauseHolds_47 : List zEnt := zE 47 (.iload 4) 2 :: zEk 49 (.bipush 60) 2 60 :: q_X4_clauseHolds_51
def q_X4_clauseHolds_77 : List zEnt := zEa 77 (.goto 16) 3 93 :: []
def q_X4_clauseHolds_76 : List zEnt := zE 76 .i2l 1 :: q_X4_clauseHolds_77
def q_X4_clauseHolds_75 : List zEnt := zE 75 .iaload 1 :: q_X4_clauseHolds_76
def q_X4_clauseHolds_69 : List zEnt := zE 69 (.aload_n 0) 1 :: zEf 70 (.getfield 22) 3 4 5 82 (1, 27, 0) :: zE 73 (.iload 5) 2 :: q_X4_clauseHolds_75
def q_X4_clauseHolds_66 : List zEnt := zEa 66 (.if_icmp .ne 14) 3 80 :: q_X4_clauseHolds_69
def q_X4_clauseHolds_56 : List zEnt := zE 56 (.aload_n 0) 1 :: zEf 57 (.getfield 25) 3 4 6 83 (1, 28, 0) :: zE 60 (.iload 4) 2 :: zE 62 (.iload 6) 2 :: zEk 64 (.bipush 70) 2 70 :: q_X4_clauseHolds_66
def q_X4_clauseHolds_92 : List zEnt := zE 92 .i2l 1 :: [zE 93 .nop 0]
def q_X4_clauseHolds_89 : List zEnt := zEc 89 (.invokevirtual 40) 3 89 3 59 0 :: q_X4_clauseHolds_92
def q_X4_clauseHolds_88 : List zEnt := zE 88 (.iload_n 3) 1 :: q_X4_clauseHolds_89
def q_X4_clauseHolds_87 : List zEnt := zE 87 .iaload 1 :: q_X4_clauseHolds_88
def q_X4_clauseHolds_80 : List zEnt := zE 80 (.aload_n 2) 1 :: zE 81 (.aload_n 0) 1 :: zEf 82 (.getfield 22) 3 4 5 82 (1, 27, 0) :: zE 85 (.iload 5) 2 :: q_X4_clauseHolds_87
def q_X4_clauseHolds_97 : List zEnt := zEa 97 (.goto 82) 3 179 :: []
def q_X4_clauseHolds_94 : List zEnt := zEk 94 (.iinc 4 1) 3 1 :: q_X4_clauseHolds_97
def q_X4_clauseHolds_93 : List zEnt := zE 93 .lastore 1 :: q_X4_clauseHolds_94
def q_X4_clauseHolds_114 : List zEnt := zE 114 .ireturn 1 :: []
def q_X4_clauseHolds_113 : List zEnt := zEk 113 (.iconst 0) 1 0 :: q_X4_clauseHolds_114
def q_X4_clauseHolds_110 : List zEnt := zEa 110 (.if_icmp .ge 5) 3 115 :: q_X4_clauseHolds_113
def q_X4_clauseHolds_107 : List zEnt := zE 107 (.iload 4) 2 :: zEk 109 (.iconst 1) 1 1 :: q_X4_clauseHolds_110
def q_X4_clauseHolds_104 : List zEnt := zEa 104 (.if_icmp .ne 34) 3 138 :: q_X4_clauseHolds_107
def q_X4_clauseHolds_100 : List zEnt := zE 100 (.iload 6) 2 :: zEk 102 (.bipush 30) 2 30 :: q_X4_clauseHolds_104
def q_X4_clauseHolds_135 : List zEnt := zEa 135 (.goto 44) 3 179 :: []
def q_X4_clauseHolds_134 : List zEnt := zE 134 .lastore 1 :: q_X4_clauseHolds_135
def q_X4_clauseHolds_133 : List zEnt := zE 133 .lsub 1 :: q_X4_clauseHolds_134
def q_X4_clauseHolds_132 : List zEnt := zE 132 .laload 1 :: q_X4_clauseHolds_133
def q_X4_clauseHolds_115 : List zEnt := zE 115 (.aload_n 0) 1 :: zEf 116 (.getfield 25) 3 4 6 83 (1, 28, 0) :: zE 119 (.iload 4) 2 :: zEk 121 (.iconst 1) 1 1 :: zE 122 .isub 1 :: (123, (.lconst 1), 1, (0, 0, 0, 0), (0, 0, 0), 0, 1, []) :: zE 124 (.aload_n 0) 1 :: zEf 125 (.getfield 25) 3 4 6 83 (1, 28, 0) :: zE 128 (.iload 4) 2 :: zEk 130 (.iconst 1) 1 1 :: zE 131 .isub 1 :: q_X4_clauseHolds_132
def q_X4_clauseHolds_145 : List zEnt := zE 145 .ireturn 1 :: []
def q_X4_clauseHolds_144 : List zEnt := zEk 144 (.iconst 0) 1 0 :: q_X4_clauseHolds_145
def q_X4_clauseHolds_141 : List zEnt := zEa 141 (.if_icmp .ge 5) 3 146 :: q_X4_clauseHolds_144
def q_X4_clauseHolds_138 : List zEnt := zE 138 (.iload 4) 2 :: zEk 140 (.iconst 2) 1 2 :: q_X4_clauseHolds_141
def q_X4_clauseHolds_182 : List zEnt := zEa 182 (.goto (-171)) 3 11 :: []
def q_X4_clauseHolds_179 : List zEnt := zEk 179 (.iinc 5 1) 3 1 :: q_X4_clauseHolds_182
def q_X4_clauseHolds_178 : List zEnt := zE 178 .lastore 1 :: q_X4_clauseHolds_179
def q_X4_clauseHolds_175 : List zEnt := zEc 175 (.invokestatic 46) 3 38 3 60 0 :: q_X4_clauseHolds_178
def q_X4_clauseHolds_174 : List zEnt := zE 174 .laload 1 :: q_X4_clauseHolds_175
def q_X4_clauseHolds_168 : List zEnt := zE 168 (.aload_n 0) 1 :: zEf 169 (.getfield 25) 3 4 6 83 (1, 28, 0) :: zE 172 (.iload 4) 2 :: q_X4_clauseHolds_174
def q_X4_clauseHolds_167 : List zEnt := zE 167 .laload 1 :: q_X4_clauseHolds_168
def q_X4_clauseHolds_146 : List zEnt := zEk 146 (.iinc 4 (-1)) 3 (-1) :: zE 149 (.aload_n 0) 1 :: zEf 150 (.getfield 25) 3 4 6 83 (1, 28, 0) :: zE 153 (.iload 4) 2 :: zEk 155 (.iconst 1) 1 1 :: zE 156 .isub 1 :: zE 157 (.iload 6) 2 :: zE 159 (.aload_n 0) 1 :: zEf 160 (.getfield 25) 3 4 6 83 (1, 28, 0) :: zE 163 (.iload 4) 2 :: zEk 165 (.iconst 1) 1 1 :: zE 166 .isub 1 :: q_X4_clauseHolds_167
def q_X4_clauseHolds_203 : List zEnt := zEa 203 (.goto 4) 3 207 :: []
def q_X4_clauseHolds_202 : List zEnt := zEk 202 (.iconst 1) 1 1 :: q_X4_clauseHolds_203
def q_X4_clauseHolds_199 : List zEnt := zEa 199 (.ifCond .eq 7) 3 206 :: q_X4_clauseHolds_202
def q_X4_clauseHolds_197 : List zEnt := (197, (.lconst 0), 1, (0, 0, 0, 0), (0, 0, 0), 0, 0, []) :: zE 198 .lcmp 1 :: q_X4_clauseHolds_199
def q_X4_clauseHolds_196 : List zEnt := zE 196 .laload 1 :: q_X4_clauseHolds_197
def q_X4_clauseHolds_191 : List zEnt := zE 191 (.aload_n 0) 1 :: zEf 192 (.getfield 25) 3 4 6 83 (1, 28, 0) :: zEk 195 (.iconst 0) 1 0 :: q_X4_clauseHolds_196
def q_X4_clauseHolds_188 : List zEnt := zEa 188 (.if_icmp .ne 18) 3 206 :: q_X4_clauseHolds_191
def q_X4_clauseHolds_185 : List zEnt := zE 185 (.iload 4) 2 :: zEk 187 (.iconst 1) 1 1 :: q_X4_clauseHolds_188
def q_X4_clauseHolds_207 : List zEnt := zE 207 .ireturn 1 :: []
def q_X4_clauseHolds_206 : List zEnt := zEk 206 (.iconst 0) 1 0 :: q_X4_clauseHolds_207
def b_X4_clauseHolds : List (Nat × List zEnt) := [(0, q_X4_clauseHolds_0), (11, q_X4_clauseHolds_11), (47, q_X4_clauseHolds_47), (56, q_X4_clauseHolds_56), (80, q_X4_clauseHolds_80), (93, q_X4_clauseHolds_93), (100, q_X4_clauseHolds_100), (115, q_X4_clauseHolds_115), (138, q_X4_clauseHolds_138), (146, q_X4_clauseHolds_146), (179, q_X4_clauseHolds_179), (185, q_X4_clauseHolds_185), (206, q_X4_clauseHolds_206), (207, q_X4_clauseHolds_207)]
theorem bk_X4_clauseHolds : zchB 37 b_X4_clauseHolds = true := by decide +kernel
noncomputable def cc_X4_clauseHolds {ρ : Type} : Nat → zH → List zAV → (zH → zAV → Option ρ) → Option ρ := fun n σ av q => if n = 89 then g_X8_valueOf σ av q else if n = 38 then g_X4_combine σ av q else none
theorem cs_X4_clauseHolds {ρ : Type} {X : zX} (hX : zHX X) : zCS X (cc_X4_clauseHolds (ρ := ρ)) := by
  intro n σ av q r h hv
  unfold cc_X4_clauseHolds at h
  by_cases e_X8_valueOf : n = 89
  · rw [if_pos e_X8_valueOf] at h
    subst e_X8_valueOf
    exact c_X8_valueOf hX h hv
  rw [if_neg e_X8_valueOf] at h
  by_cases e_X4_combine : n = 38
  · rw [if_pos e_X4_combine] at h
    subst e_X4_combine
    exact c_X4_combine hX h hv
  rw [if_neg e_X4_combine] at h
  cases h
theorem cl_X4_clauseHolds_X8_valueOf {ρ : Type} (σ : zH) (av : List zAV) (q : zH → zAV → Option ρ) : cc_X4_clauseHolds 89 σ av q = g_X8_valueOf σ av q := rfl
theorem cl_X4_clauseHolds_X4_combine {ρ : Type} (σ : zH) (av : List zAV) (q : zH → zAV → Option ρ) : cc_X4_clauseHolds 38 σ av q = g_X4_combine σ av q := rfl
theorem hy_X4_clauseHolds {ρ : Type} {X : zX} (hX : zHX X) : zHY X 37 (cc_X4_clauseHolds (ρ := ρ)) := zHX.hY hX (cs_X4_clauseHolds hX) (zmok_all 37 (by decide))
def gl_X4_clauseHolds_11 {ρ : Type} (f : zH → Nat → Int32 → Nat → Int32 → Int32 → Int32 → Option ρ) (σ : zH) (L st : List zAV) : Option ρ := match L, st with
  | [.inr (.inr (.inl (4, i0))), .inl x1, .inr (.inr (.inl (8, i2))), .inl x3, .inl x4, .inl x5, _], [] => f σ i0 x1 i2 x3 x4 x5
  | _, _ => none
def gl_X4_clauseHolds_47 {ρ : Type} (f : zH → Nat → Int32 → Nat → Int32 → Int32 → Int32 → Int32 → Option ρ) (σ : zH) (L st : List zAV) : Option ρ := match L, st with
  | [.inr (.inr (.inl (4, i0))), .inl x1, .inr (.inr (.inl (8, i2))), .inl x3, .inl x4, .inl x5, .inl x6], [] => f σ i0 x1 i2 x3 x4 x5 x6
  | _, _ => none
def gl_X4_clauseHolds_93 {ρ : Type} (f : zH → Nat → Int32 → Nat → Int32 → Int32 → Int32 → Nat → Int32 → Int64 → Option ρ) (σ : zH) (L st : List zAV) : Option ρ := match L, st with
  | [.inr (.inr (.inl (4, i0))), .inl x1, .inr (.inr (.inl (8, i2))), .inl x3, .inl x4, .inl x5, _], [.inr (.inl zs2), .inl xs1, .inr (.inr (.inl (28, is0)))] => f σ i0 x1 i2 x3 x4 x5 is0 xs1 zs2
  | _, _ => none
def gl_X4_clauseHolds_185 {ρ : Type} (f : zH → Nat → Int32 → Option ρ) (σ : zH) (L st : List zAV) : Option ρ := match L, st with
  | [.inr (.inr (.inl (4, i0))), _, _, _, .inl x4, _, _], [] => f σ i0 x4
  | _, _ => none
theorem glr_X4_clauseHolds_11 {ρ : Type} (f : zH → Nat → Int32 → Nat → Int32 → Int32 → Int32 → Option ρ) (σ : zH) (i0 : Nat) (x1 : Int32) (i2 : Nat) (x3 : Int32) (x4 : Int32) (x5 : Int32) (y6 : zAV) : gl_X4_clauseHolds_11 f σ [vR 4 i0, vI x1, vR 8 i2, vI x3, vI x4, vI x5, y6] [] = f σ i0 x1 i2 x3 x4 x5 := rfl
theorem glr_X4_clauseHolds_47 {ρ : Type} (f : zH → Nat → Int32 → Nat → Int32 → Int32 → Int32 → Int32 → Option ρ) (σ : zH) (i0 : Nat) (x1 : Int32) (i2 : Nat) (x3 : Int32) (x4 : Int32) (x5 : Int32) (x6 : Int32)  : gl_X4_clauseHolds_47 f σ [vR 4 i0, vI x1, vR 8 i2, vI x3, vI x4, vI x5, vI x6] [] = f σ i0 x1 i2 x3 x4 x5 x6 := rfl
theorem glr_X4_clauseHolds_93 {ρ : Type} (f : zH → Nat → Int32 → Nat → Int32 → Int32 → Int32 → Nat → Int32 → Int64 → Option ρ) (σ : zH) (i0 : Nat) (x1 : Int32) (i2 : Nat) (x3 : Int32) (x4 : Int32) (x5 : Int32) (is0 : Nat) (xs1 : Int32) (zs2 : Int64) (y6 : zAV) : gl_X4_clauseHolds_93 f σ [vR 4 i0, vI x1, vR 8 i2, vI x3, vI x4, vI x5, y6] [vL zs2, vI xs1, vR 28 is0] = f σ i0 x1 i2 x3 x4 x5 is0 xs1 zs2 := rfl
theorem glr_X4_clauseHolds_185 {ρ : Type} (f : zH → Nat → Int32 → Option ρ) (σ : zH) (i0 : Nat) (x4 : Int32) (y1 : zAV) (y2 : zAV) (y3 : zAV) (y5 : zAV) (y6 : zAV) : gl_X4_clauseHolds_185 f σ [vR 4 i0, y1, y2, y3, vI x4, y5, y6] [] = f σ i0 x4 := rfl
theorem t_X4_clauseHolds_0 {G : Nat → zH → List zAV → List zAV → Option (zH × Int32)} (es : List zEnt) (σ : zH) (i0 : Nat) (x1 : Int32) (i2 : Nat) (x3 : Int32) (y4 : zAV) (y5 : zAV) (y6 : zAV) (w0 : Int32) : zev cc_X4_clauseHolds G 1 krI (zEk 0 (.iconst 0) 1 w0 :: zE 1 (.istore 4) 2 :: zE 3 (.aload_n 0) 1 :: zEf 4 (.getfield 13) 3 4 2 79 (1, 25, 0) :: zE 7 (.iload_n 1) 1 :: es) σ [vR 4 i0, vI x1, vR 8 i2, vI x3, y4, y5, y6] [] = zev cc_X4_clauseHolds G 1 krI es σ [vR 4 i0, vI x1, vR 8 i2, vI x3, vI w0, y5, y6] [vI x1, vR 25 (i0 + 0)] := rfl
theorem t_X4_clauseHolds_9 {G : Nat → zH → List zAV → List zAV → Option (zH × Int32)} (es : List zEnt) (σ : zH) (i0 : Nat) (x1 : Int32) (i2 : Nat) (x3 : Int32) (x4 : Int32) (xs0 : Int32) (y5 : zAV) (y6 : zAV)  : zev cc_X4_clauseHolds G 1 krI (zE 9 (.istore 5) 2 :: es) σ [vR 4 i0, vI x1, vR 8 i2, vI x3, vI x4, y5, y6] [vI xs0] = zev cc_X4_clauseHolds G 1 krI es σ [vR 4 i0, vI x1, vR 8 i2, vI x3, vI x4, vI xs0, y6] [] := rfl
theorem t_X4_clauseHolds_11 {G : Nat → zH → List zAV → List zAV → Option (zH × Int32)} (es : List zEnt) (σ : zH) (i0 : Nat) (x1 : Int32) (i2 : Nat) (x3 : Int32) (x4 : Int32) (x5 : Int32) (y6 : zAV) (w18 : Int32) : zev cc_X4_clauseHolds G 1 krI (zE 11 (.iload 5) 2 :: zE 13 (.aload_n 0) 1 :: zEf 14 (.getfield 13) 3 4 2 79 (1, 25, 0) :: zE 17 (.iload_n 1) 1 :: zEk 18 (.iconst 1) 1 w18 :: zE 19 .iadd 1 :: es) σ [vR 4 i0, vI x1, vR 8 i2, vI x3, vI x4, vI x5, y6] [] = zev cc_X4_clauseHolds G 1 krI es σ [vR 4 i0, vI x1, vR 8 i2, vI x3, vI x4, vI x5, y6] [vI (x1 + w18), vR 25 (i0 + 0), vI x5] := rfl
theorem t_X4_clauseHolds_24 {G : Nat → zH → List zAV → List zAV → Option (zH × Int32)} (es : List zEnt) (σ : zH) (i0 : Nat) (x1 : Int32) (i2 : Nat) (x3 : Int32) (x4 : Int32) (x5 : Int32) (y6 : zAV)  : zev cc_X4_clauseHolds G 1 krI (zE 24 (.aload_n 0) 1 :: zEf 25 (.getfield 19) 3 4 4 81 (1, 26, 0) :: zE 28 (.iload 5) 2 :: es) σ [vR 4 i0, vI x1, vR 8 i2, vI x3, vI x4, vI x5, y6] [] = zev cc_X4_clauseHolds G 1 krI es σ [vR 4 i0, vI x1, vR 8 i2, vI x3, vI x4, vI x5, y6] [vI x5, vR 26 (i0 + 0)] := rfl
theorem t_X4_clauseHolds_31 {G : Nat → zH → List zAV → List zAV → Option (zH × Int32)} (es : List zEnt) (σ : zH) (i0 : Nat) (x1 : Int32) (i2 : Nat) (x3 : Int32) (x4 : Int32) (x5 : Int32) (xs0 : Int32) (y6 : zAV) (w35 : Int32) : zev cc_X4_clauseHolds G 1 krI (zE 31 (.istore 6) 2 :: zE 33 (.iload 6) 2 :: zEk 35 (.bipush 70) 2 w35 :: es) σ [vR 4 i0, vI x1, vR 8 i2, vI x3, vI x4, vI x5, y6] [vI xs0] = zev cc_X4_clauseHolds G 1 krI es σ [vR 4 i0, vI x1, vR 8 i2, vI x3, vI x4, vI x5, vI xs0] [vI w35, vI xs0] := rfl
theorem t_X4_clauseHolds_40 {G : Nat → zH → List zAV → List zAV → Option (zH × Int32)} (es : List zEnt) (σ : zH) (i0 : Nat) (x1 : Int32) (i2 : Nat) (x3 : Int32) (x4 : Int32) (x5 : Int32) (x6 : Int32)  (w42 : Int32) : zev cc_X4_clauseHolds G 1 krI (zE 40 (.iload 6) 2 :: zEk 42 (.bipush 71) 2 w42 :: es) σ [vR 4 i0, vI x1, vR 8 i2, vI x3, vI x4, vI x5, vI x6] [] = zev cc_X4_clauseHolds G 1 krI es σ [vR 4 i0, vI x1, vR 8 i2, vI x3, vI x4, vI x5, vI x6] [vI w42, vI x6] := rfl
theorem t_X4_clauseHolds_47 {G : Nat → zH → List zAV → List zAV → Option (zH × Int32)} (es : List zEnt) (σ : zH) (i0 : Nat) (x1 : Int32) (i2 : Nat) (x3 : Int32) (x4 : Int32) (x5 : Int32) (x6 : Int32)  (w49 : Int32) : zev cc_X4_clauseHolds G 1 krI (zE 47 (.iload 4) 2 :: zEk 49 (.bipush 60) 2 w49 :: es) σ [vR 4 i0, vI x1, vR 8 i2, vI x3, vI x4, vI x5, vI x6] [] = zev cc_X4_clauseHolds G 1 krI es σ [vR 4 i0, vI x1, vR 8 i2, vI x3, vI x4, vI x5, vI x6] [vI w49, vI x4] := rfl
theorem t_X4_clauseHolds_54 {G : Nat → zH → List zAV → List zAV → Option (zH × Int32)} (es : List zEnt) (σ : zH)  (y0 : zAV) (y1 : zAV) (y2 : zAV) (y3 : zAV) (y4 : zAV) (y5 : zAV) (y6 : zAV) (w54 : Int32) : zev cc_X4_clauseHolds G 1 krI (zEk 54 (.iconst 0) 1 w54 :: es) σ [y0, y1, y2, y3, y4, y5, y6] [] = zev cc_X4_clauseHolds G 1 krI es σ [y0, y1, y2, y3, y4, y5, y6] [vI w54] := rfl
theorem t_X4_clauseHolds_56 {G : Nat → zH → List zAV → List zAV → Option (zH × Int32)} (es : List zEnt) (σ : zH) (i0 : Nat) (x1 : Int32) (i2 : Nat) (x3 : Int32) (x4 : Int32) (x5 : Int32) (x6 : Int32)  (w64 : Int32) : zev cc_X4_clauseHolds G 1 krI (zE 56 (.aload_n 0) 1 :: zEf 57 (.getfield 25) 3 4 6 83 (1, 28, 0) :: zE 60 (.iload 4) 2 :: zE 62 (.iload 6) 2 :: zEk 64 (.bipush 70) 2 w64 :: es) σ [vR 4 i0, vI x1, vR 8 i2, vI x3, vI x4, vI x5, vI x6] [] = zev cc_X4_clauseHolds G 1 krI es σ [vR 4 i0, vI x1, vR 8 i2, vI x3, vI x4, vI x5, vI x6] [vI w64, vI x6, vI x4, vR 28 (i0 + 0)] := rfl
theorem t_X4_clauseHolds_69 {G : Nat → zH → List zAV → List zAV → Option (zH × Int32)} (es : List zEnt) (σ : zH) (i0 : Nat) (x1 : Int32) (i2 : Nat) (x3 : Int32) (x4 : Int32) (x5 : Int32) (is0 : Nat) (xs1 : Int32) (y6 : zAV)  : zev cc_X4_clauseHolds G 1 krI (zE 69 (.aload_n 0) 1 :: zEf 70 (.getfield 22) 3 4 5 82 (1, 27, 0) :: zE 73 (.iload 5) 2 :: es) σ [vR 4 i0, vI x1, vR 8 i2, vI x3, vI x4, vI x5, y6] [vI xs1, vR 28 is0] = zev cc_X4_clauseHolds G 1 krI es σ [vR 4 i0, vI x1, vR 8 i2, vI x3, vI x4, vI x5, y6] [vI x5, vR 27 (i0 + 0), vI xs1, vR 28 is0] := rfl
theorem t_X4_clauseHolds_76 {G : Nat → zH → List zAV → List zAV → Option (zH × Int32)} (es : List zEnt) (σ : zH) (i0 : Nat) (x1 : Int32) (i2 : Nat) (x3 : Int32) (x4 : Int32) (x5 : Int32) (is0 : Nat) (xs1 : Int32) (xs2 : Int32) (y6 : zAV)  : zev cc_X4_clauseHolds G 1 krI (zE 76 .i2l 1 :: es) σ [vR 4 i0, vI x1, vR 8 i2, vI x3, vI x4, vI x5, y6] [vI xs2, vI xs1, vR 28 is0] = zev cc_X4_clauseHolds G 1 krI es σ [vR 4 i0, vI x1, vR 8 i2, vI x3, vI x4, vI x5, y6] [vL xs2.toInt64, vI xs1, vR 28 is0] := rfl
theorem t_X4_clauseHolds_80 {G : Nat → zH → List zAV → List zAV → Option (zH × Int32)} (es : List zEnt) (σ : zH) (i0 : Nat) (x1 : Int32) (i2 : Nat) (x3 : Int32) (x4 : Int32) (x5 : Int32) (is0 : Nat) (xs1 : Int32) (y6 : zAV)  : zev cc_X4_clauseHolds G 1 krI (zE 80 (.aload_n 2) 1 :: zE 81 (.aload_n 0) 1 :: zEf 82 (.getfield 22) 3 4 5 82 (1, 27, 0) :: zE 85 (.iload 5) 2 :: es) σ [vR 4 i0, vI x1, vR 8 i2, vI x3, vI x4, vI x5, y6] [vI xs1, vR 28 is0] = zev cc_X4_clauseHolds G 1 krI es σ [vR 4 i0, vI x1, vR 8 i2, vI x3, vI x4, vI x5, y6] [vI x5, vR 27 (i0 + 0), vR 8 i2, vI xs1, vR 28 is0] := rfl
theorem t_X4_clauseHolds_88 {G : Nat → zH → List zAV → List zAV → Option (zH × Int32)} (es : List zEnt) (σ : zH) (i0 : Nat) (x1 : Int32) (i2 : Nat) (x3 : Int32) (x4 : Int32) (x5 : Int32) (is0 : Nat) (xs1 : Int32) (is2 : Nat) (xs3 : Int32) (y6 : zAV)  : zev cc_X4_clauseHolds G 1 krI (zE 88 (.iload_n 3) 1 :: es) σ [vR 4 i0, vI x1, vR 8 i2, vI x3, vI x4, vI x5, y6] [vI xs3, vR 8 is2, vI xs1, vR 28 is0] = zev cc_X4_clauseHolds G 1 krI es σ [vR 4 i0, vI x1, vR 8 i2, vI x3, vI x4, vI x5, y6] [vI x3, vI xs3, vR 8 is2, vI xs1, vR 28 is0] := rfl
theorem t_X4_clauseHolds_92 {G : Nat → zH → List zAV → List zAV → Option (zH × Int32)} (es : List zEnt) (σ : zH) (i0 : Nat) (x1 : Int32) (i2 : Nat) (x3 : Int32) (x4 : Int32) (x5 : Int32) (is0 : Nat) (xs1 : Int32) (xs2 : Int32) (y6 : zAV)  : zev cc_X4_clauseHolds G 1 krI (zE 92 .i2l 1 :: es) σ [vR 4 i0, vI x1, vR 8 i2, vI x3, vI x4, vI x5, y6] [vI xs2, vI xs1, vR 28 is0] = zev cc_X4_clauseHolds G 1 krI es σ [vR 4 i0, vI x1, vR 8 i2, vI x3, vI x4, vI x5, y6] [vL xs2.toInt64, vI xs1, vR 28 is0] := rfl
theorem t_X4_clauseHolds_94 {G : Nat → zH → List zAV → List zAV → Option (zH × Int32)} (es : List zEnt) (σ : zH) (i0 : Nat) (x1 : Int32) (i2 : Nat) (x3 : Int32) (x4 : Int32) (x5 : Int32) (y6 : zAV) (w94 : Int32) : zev cc_X4_clauseHolds G 1 krI (zEk 94 (.iinc 4 1) 3 w94 :: es) σ [vR 4 i0, vI x1, vR 8 i2, vI x3, vI x4, vI x5, y6] [] = zev cc_X4_clauseHolds G 1 krI es σ [vR 4 i0, vI x1, vR 8 i2, vI x3, vI (x4 + w94), vI x5, y6] [] := rfl
theorem t_X4_clauseHolds_100 {G : Nat → zH → List zAV → List zAV → Option (zH × Int32)} (es : List zEnt) (σ : zH) (i0 : Nat) (x1 : Int32) (i2 : Nat) (x3 : Int32) (x4 : Int32) (x5 : Int32) (x6 : Int32)  (w102 : Int32) : zev cc_X4_clauseHolds G 1 krI (zE 100 (.iload 6) 2 :: zEk 102 (.bipush 30) 2 w102 :: es) σ [vR 4 i0, vI x1, vR 8 i2, vI x3, vI x4, vI x5, vI x6] [] = zev cc_X4_clauseHolds G 1 krI es σ [vR 4 i0, vI x1, vR 8 i2, vI x3, vI x4, vI x5, vI x6] [vI w102, vI x6] := rfl
theorem t_X4_clauseHolds_107 {G : Nat → zH → List zAV → List zAV → Option (zH × Int32)} (es : List zEnt) (σ : zH) (i0 : Nat) (x1 : Int32) (i2 : Nat) (x3 : Int32) (x4 : Int32) (x5 : Int32) (y6 : zAV) (w109 : Int32) : zev cc_X4_clauseHolds G 1 krI (zE 107 (.iload 4) 2 :: zEk 109 (.iconst 1) 1 w109 :: es) σ [vR 4 i0, vI x1, vR 8 i2, vI x3, vI x4, vI x5, y6] [] = zev cc_X4_clauseHolds G 1 krI es σ [vR 4 i0, vI x1, vR 8 i2, vI x3, vI x4, vI x5, y6] [vI w109, vI x4] := rfl
theorem t_X4_clauseHolds_113 {G : Nat → zH → List zAV → List zAV → Option (zH × Int32)} (es : List zEnt) (σ : zH)  (y0 : zAV) (y1 : zAV) (y2 : zAV) (y3 : zAV) (y4 : zAV) (y5 : zAV) (y6 : zAV) (w113 : Int32) : zev cc_X4_clauseHolds G 1 krI (zEk 113 (.iconst 0) 1 w113 :: es) σ [y0, y1, y2, y3, y4, y5, y6] [] = zev cc_X4_clauseHolds G 1 krI es σ [y0, y1, y2, y3, y4, y5, y6] [vI w113] := rfl
theorem t_X4_clauseHolds_115 {G : Nat → zH → List zAV → List zAV → Option (zH × Int32)} (es : List zEnt) (σ : zH) (i0 : Nat) (x1 : Int32) (i2 : Nat) (x3 : Int32) (x4 : Int32) (x5 : Int32) (y6 : zAV) (w121 : Int32) (w123 : Int64) (w130 : Int32) : zev cc_X4_clauseHolds G 1 krI (zE 115 (.aload_n 0) 1 :: zEf 116 (.getfield 25) 3 4 6 83 (1, 28, 0) :: zE 119 (.iload 4) 2 :: zEk 121 (.iconst 1) 1 w121 :: zE 122 .isub 1 :: (123, (.lconst 1), 1, (0, 0, 0, 0), (0, 0, 0), 0, w123, []) :: zE 124 (.aload_n 0) 1 :: zEf 125 (.getfield 25) 3 4 6 83 (1, 28, 0) :: zE 128 (.iload 4) 2 :: zEk 130 (.iconst 1) 1 w130 :: zE 131 .isub 1 :: es) σ [vR 4 i0, vI x1, vR 8 i2, vI x3, vI x4, vI x5, y6] [] = zev cc_X4_clauseHolds G 1 krI es σ [vR 4 i0, vI x1, vR 8 i2, vI x3, vI x4, vI x5, y6] [vI (x4 - w130), vR 28 (i0 + 0), vL w123, vI (x4 - w121), vR 28 (i0 + 0)] := rfl
theorem t_X4_clauseHolds_133 {G : Nat → zH → List zAV → List zAV → Option (zH × Int32)} (es : List zEnt) (σ : zH) (i0 : Nat) (x1 : Int32) (i2 : Nat) (x3 : Int32) (x4 : Int32) (x5 : Int32) (is0 : Nat) (xs1 : Int32) (zs2 : Int64) (zs3 : Int64) (y6 : zAV)  : zev cc_X4_clauseHolds G 1 krI (zE 133 .lsub 1 :: es) σ [vR 4 i0, vI x1, vR 8 i2, vI x3, vI x4, vI x5, y6] [vL zs3, vL zs2, vI xs1, vR 28 is0] = zev cc_X4_clauseHolds G 1 krI es σ [vR 4 i0, vI x1, vR 8 i2, vI x3, vI x4, vI x5, y6] [vL (zs2 - zs3), vI xs1, vR 28 is0] := rfl
theorem t_X4_clauseHolds_138 {G : Nat → zH → List zAV → List zAV → Option (zH × Int32)} (es : List zEnt) (σ : zH) (i0 : Nat) (x1 : Int32) (i2 : Nat) (x3 : Int32) (x4 : Int32) (x5 : Int32) (x6 : Int32)  (w140 : Int32) : zev cc_X4_clauseHolds G 1 krI (zE 138 (.iload 4) 2 :: zEk 140 (.iconst 2) 1 w140 :: es) σ [vR 4 i0, vI x1, vR 8 i2, vI x3, vI x4, vI x5, vI x6] [] = zev cc_X4_clauseHolds G 1 krI es σ [vR 4 i0, vI x1, vR 8 i2, vI x3, vI x4, vI x5, vI x6] [vI w140, vI x4] := rfl
theorem t_X4_clauseHolds_144 {G : Nat → zH → List zAV → List zAV → Option (zH × Int32)} (es : List zEnt) (σ : zH)  (y0 : zAV) (y1 : zAV) (y2 : zAV) (y3 : zAV) (y4 : zAV) (y5 : zAV) (y6 : zAV) (w144 : Int32) : zev cc_X4_clauseHolds G 1 krI (zEk 144 (.iconst 0) 1 w144 :: es) σ [y0, y1, y2, y3, y4, y5, y6] [] = zev cc_X4_clauseHolds G 1 krI es σ [y0, y1, y2, y3, y4, y5, y6] [vI w144] := rfl
theorem t_X4_clauseHolds_146 {G : Nat → zH → List zAV → List zAV → Option (zH × Int32)} (es : List zEnt) (σ : zH) (i0 : Nat) (x1 : Int32) (i2 : Nat) (x3 : Int32) (x4 : Int32) (x5 : Int32) (x6 : Int32)  (w146 : Int32) (w155 : Int32) (w165 : Int32) : zev cc_X4_clauseHolds G 1 krI (zEk 146 (.iinc 4 (-1)) 3 w146 :: zE 149 (.aload_n 0) 1 :: zEf 150 (.getfield 25) 3 4 6 83 (1, 28, 0) :: zE 153 (.iload 4) 2 :: zEk 155 (.iconst 1) 1 w155 :: zE 156 .isub 1 :: zE 157 (.iload 6) 2 :: zE 159 (.aload_n 0) 1 :: zEf 160 (.getfield 25) 3 4 6 83 (1, 28, 0) :: zE 163 (.iload 4) 2 :: zEk 165 (.iconst 1) 1 w165 :: zE 166 .isub 1 :: es) σ [vR 4 i0, vI x1, vR 8 i2, vI x3, vI x4, vI x5, vI x6] [] = zev cc_X4_clauseHolds G 1 krI es σ [vR 4 i0, vI x1, vR 8 i2, vI x3, vI (x4 + w146), vI x5, vI x6] [vI ((x4 + w146) - w165), vR 28 (i0 + 0), vI x6, vI ((x4 + w146) - w155), vR 28 (i0 + 0)] := rfl
theorem t_X4_clauseHolds_168 {G : Nat → zH → List zAV → List zAV → Option (zH × Int32)} (es : List zEnt) (σ : zH) (i0 : Nat) (x1 : Int32) (i2 : Nat) (x3 : Int32) (x4 : Int32) (x5 : Int32) (is0 : Nat) (xs1 : Int32) (xs2 : Int32) (zs3 : Int64) (y6 : zAV)  : zev cc_X4_clauseHolds G 1 krI (zE 168 (.aload_n 0) 1 :: zEf 169 (.getfield 25) 3 4 6 83 (1, 28, 0) :: zE 172 (.iload 4) 2 :: es) σ [vR 4 i0, vI x1, vR 8 i2, vI x3, vI x4, vI x5, y6] [vL zs3, vI xs2, vI xs1, vR 28 is0] = zev cc_X4_clauseHolds G 1 krI es σ [vR 4 i0, vI x1, vR 8 i2, vI x3, vI x4, vI x5, y6] [vI x4, vR 28 (i0 + 0), vL zs3, vI xs2, vI xs1, vR 28 is0] := rfl
theorem t_X4_clauseHolds_179 {G : Nat → zH → List zAV → List zAV → Option (zH × Int32)} (es : List zEnt) (σ : zH) (i0 : Nat) (x1 : Int32) (i2 : Nat) (x3 : Int32) (x4 : Int32) (x5 : Int32) (y6 : zAV) (w179 : Int32) : zev cc_X4_clauseHolds G 1 krI (zEk 179 (.iinc 5 1) 3 w179 :: es) σ [vR 4 i0, vI x1, vR 8 i2, vI x3, vI x4, vI x5, y6] [] = zev cc_X4_clauseHolds G 1 krI es σ [vR 4 i0, vI x1, vR 8 i2, vI x3, vI x4, vI (x5 + w179), y6] [] := rfl
theorem t_X4_clauseHolds_185 {G : Nat → zH → List zAV → List zAV → Option (zH × Int32)} (es : List zEnt) (σ : zH) (i0 : Nat) (x4 : Int32) (y1 : zAV) (y2 : zAV) (y3 : zAV) (y5 : zAV) (y6 : zAV) (w187 : Int32) : zev cc_X4_clauseHolds G 1 krI (zE 185 (.iload 4) 2 :: zEk 187 (.iconst 1) 1 w187 :: es) σ [vR 4 i0, y1, y2, y3, vI x4, y5, y6] [] = zev cc_X4_clauseHolds G 1 krI es σ [vR 4 i0, y1, y2, y3, vI x4, y5, y6] [vI w187, vI x4] := rfl
theorem t_X4_clauseHolds_191 {G : Nat → zH → List zAV → List zAV → Option (zH × Int32)} (es : List zEnt) (σ : zH) (i0 : Nat) (y1 : zAV) (y2 : zAV) (y3 : zAV) (y4 : zAV) (y5 : zAV) (y6 : zAV) (w195 : Int32) : zev cc_X4_clauseHolds G 1 krI (zE 191 (.aload_n 0) 1 :: zEf 192 (.getfield 25) 3 4 6 83 (1, 28, 0) :: zEk 195 (.iconst 0) 1 w195 :: es) σ [vR 4 i0, y1, y2, y3, y4, y5, y6] [] = zev cc_X4_clauseHolds G 1 krI es σ [vR 4 i0, y1, y2, y3, y4, y5, y6] [vI w195, vR 28 (i0 + 0)] := rfl
theorem t_X4_clauseHolds_197 {G : Nat → zH → List zAV → List zAV → Option (zH × Int32)} (es : List zEnt) (σ : zH) (zs0 : Int64) (y0 : zAV) (y1 : zAV) (y2 : zAV) (y3 : zAV) (y4 : zAV) (y5 : zAV) (y6 : zAV) (w197 : Int64) : zev cc_X4_clauseHolds G 1 krI ((197, (.lconst 0), 1, (0, 0, 0, 0), (0, 0, 0), 0, w197, []) :: zE 198 .lcmp 1 :: es) σ [y0, y1, y2, y3, y4, y5, y6] [vL zs0] = zev cc_X4_clauseHolds G 1 krI es σ [y0, y1, y2, y3, y4, y5, y6] [vI (lg_cmp zs0 w197)] := rfl
theorem t_X4_clauseHolds_202 {G : Nat → zH → List zAV → List zAV → Option (zH × Int32)} (es : List zEnt) (σ : zH)  (y0 : zAV) (y1 : zAV) (y2 : zAV) (y3 : zAV) (y4 : zAV) (y5 : zAV) (y6 : zAV) (w202 : Int32) : zev cc_X4_clauseHolds G 1 krI (zEk 202 (.iconst 1) 1 w202 :: es) σ [y0, y1, y2, y3, y4, y5, y6] [] = zev cc_X4_clauseHolds G 1 krI es σ [y0, y1, y2, y3, y4, y5, y6] [vI w202] := rfl
theorem t_X4_clauseHolds_206 {G : Nat → zH → List zAV → List zAV → Option (zH × Int32)} (es : List zEnt) (σ : zH)  (y0 : zAV) (y1 : zAV) (y2 : zAV) (y3 : zAV) (y4 : zAV) (y5 : zAV) (y6 : zAV) (w206 : Int32) : zev cc_X4_clauseHolds G 1 krI (zEk 206 (.iconst 0) 1 w206 :: es) σ [y0, y1, y2, y3, y4, y5, y6] [] = zev cc_X4_clauseHolds G 1 krI es σ [y0, y1, y2, y3, y4, y5, y6] [vI w206] := rfl
noncomputable def j_X4_clauseHolds_93 (c11 : zH → Nat → Int32 → Nat → Int32 → Int32 → Int32 → Option (zH × Int32)) (σ : zH) (i0 : Nat) (x1 : Int32) (i2 : Nat) (x3 : Int32) (x4 : Int32) (x5 : Int32) (is0 : Nat) (xs1 : Int32) (zs2 : Int64) : Option (zH × Int32) :=
  ix xs1 60 fun j2 =>
  zlet (uL σ 28 is0 j2 zs2) fun σ1 =>
  c11 σ1 i0 x1 i2 x3 (x4 + (1 : Int32)) (x5 + (1 : Int32))
theorem e_X4_clauseHolds_93 (c11 : zH → Nat → Int32 → Nat → Int32 → Int32 → Int32 → Option (zH × Int32)) (σ : zH) (i0 : Nat) (x1 : Int32) (i2 : Nat) (x3 : Int32) (x4 : Int32) (x5 : Int32) (is0 : Nat) (xs1 : Int32) (zs2 : Int64) (y6 : zAV) : j_X4_clauseHolds_93 c11 σ i0 x1 i2 x3 x4 x5 is0 xs1 zs2 = zin cc_X4_clauseHolds (fun t => if t = 11 then some (gl_X4_clauseHolds_11 c11) else none) 1 krI b_X4_clauseHolds 93 σ [vR 4 i0, vI x1, vR 8 i2, vI x3, vI x4, vI x5, y6] [vL zs2, vI xs1, vR 28 is0] := by
  unfold j_X4_clauseHolds_93
  refine Eq.symm ((zin_b (es := q_X4_clauseHolds_93) rfl).trans ?_)
  refine (x_last (N := 60) rfl rfl).trans (pix fun _ => plt fun _ => ?_)
  refine (t_X4_clauseHolds_94 _ _ _ _ _ _ _ _ _ _).trans ?_
  refine x_goto.trans ?_
  refine (zrun_b (es := q_X4_clauseHolds_179) rfl rfl).trans ?_
  refine (t_X4_clauseHolds_179 _ _ _ _ _ _ _ _ _ _).trans ?_
  refine x_goto.trans ?_
  exact (zrun_c rfl).trans (glr_X4_clauseHolds_11 _ _ _ _ _ _ _ _ _)
theorem s_X4_clauseHolds_93 {X : zX} (hX : zHX X) {c11 : zH → Nat → Int32 → Nat → Int32 → Int32 → Int32 → Option (zH × Int32)} (h11 : ∀ σ L st r, gl_X4_clauseHolds_11 c11 σ L st = some r → zGW X 37 krI 11 σ L st r) : ∀ σ L st r, gl_X4_clauseHolds_93 (j_X4_clauseHolds_93 c11) σ L st = some r → zGW X 37 krI 93 σ L st r := by
  intro σ L st r h
  unfold gl_X4_clauseHolds_93 at h
  split at h
  · exact zin_ok (hy_X4_clauseHolds hX) bk_X4_clauseHolds (fun t f hf => by
    by_cases e11 : t = 11
    · rw [if_pos e11] at hf; subst e11; cases hf; exact h11
    rw [if_neg e11] at hf
    cases hf) ((e_X4_clauseHolds_93 _ _ _ _ _ _ _ _ _ _ _ _).symm.trans h)
  · cases h
noncomputable def j_X4_clauseHolds_47 (c11 : zH → Nat → Int32 → Nat → Int32 → Int32 → Int32 → Option (zH × Int32)) (σ : zH) (i0 : Nat) (x1 : Int32) (i2 : Nat) (x3 : Int32) (x4 : Int32) (x5 : Int32) (x6 : Int32) : Option (zH × Int32) :=
  if x4 < (60 : Int32) then
    if x6 = (70 : Int32) then
      ix x5 400 fun j3 =>
      (j_X4_clauseHolds_93 c11) σ i0 x1 i2 x3 x4 x5 (i0 + 0) x4 ((σ.1 27 (i0 + 0) j3).toInt64)
    else
      ix x5 400 fun j1 =>
      (d_X8_valueOf σ i2 (σ.1 27 (i0 + 0) j1) x3).bind fun p2 =>
      (j_X4_clauseHolds_93 c11) p2.1 i0 x1 i2 x3 x4 x5 (i0 + 0) x4 p2.2.toInt64
  else
    some (σ, (0 : Int32))
theorem e_X4_clauseHolds_47 (c11 : zH → Nat → Int32 → Nat → Int32 → Int32 → Int32 → Option (zH × Int32)) (σ : zH) (i0 : Nat) (x1 : Int32) (i2 : Nat) (x3 : Int32) (x4 : Int32) (x5 : Int32) (x6 : Int32)  : j_X4_clauseHolds_47 c11 σ i0 x1 i2 x3 x4 x5 x6 = zin cc_X4_clauseHolds (fun t => if t = 93 then some (gl_X4_clauseHolds_93 (j_X4_clauseHolds_93 c11)) else none) 1 krI b_X4_clauseHolds 47 σ [vR 4 i0, vI x1, vR 8 i2, vI x3, vI x4, vI x5, vI x6] [] := by
  unfold j_X4_clauseHolds_47
  refine Eq.symm ((zin_b (es := q_X4_clauseHolds_47) rfl).trans ?_)
  refine (t_X4_clauseHolds_47 _ _ _ _ _ _ _ _ _ _).trans ?_
  refine x_icmp.trans (pif_lt ?_ ?_)
  · refine (zrun_b (es := q_X4_clauseHolds_56) rfl rfl).trans ?_
    refine (t_X4_clauseHolds_56 _ _ _ _ _ _ _ _ _ _).trans ?_
    refine x_icmp.trans (pif_ne ?_ ?_)
    · refine (zrun_b (es := q_X4_clauseHolds_80) rfl rfl).trans ?_
      refine (t_X4_clauseHolds_80 _ _ _ _ _ _ _ _ _ _ _).trans ?_
      refine (x_iald (N := 400) rfl rfl).trans (pix fun _ => ?_)
      refine (t_X4_clauseHolds_88 _ _ _ _ _ _ _ _ _ _ _ _ _).trans ?_
      refine (x_callV rfl rfl rfl rfl).trans ((cl_X4_clauseHolds_X8_valueOf _ _ _).trans ((gr_X8_valueOf _ _ _ _ _).trans (pbd fun _ => ?_)))
      refine (t_X4_clauseHolds_92 _ _ _ _ _ _ _ _ _ _ _ _).trans ?_
      refine x_cut.trans ?_
      exact (zrun_c rfl).trans (glr_X4_clauseHolds_93 _ _ _ _ _ _ _ _ _ _ _ _)
    · refine (t_X4_clauseHolds_69 _ _ _ _ _ _ _ _ _ _ _).trans ?_
      refine (x_iald (N := 400) rfl rfl).trans (pix fun _ => ?_)
      refine (t_X4_clauseHolds_76 _ _ _ _ _ _ _ _ _ _ _ _).trans ?_
      refine x_goto.trans ?_
      exact (zrun_c rfl).trans (glr_X4_clauseHolds_93 _ _ _ _ _ _ _ _ _ _ _ _)
  · refine (t_X4_clauseHolds_54 _ _ _ _ _ _ _ _ _ _).trans ?_
    exact x_zret.trans (tv_l (by decide +kernel))
theorem s_X4_clauseHolds_47 {X : zX} (hX : zHX X) {c11 : zH → Nat → Int32 → Nat → Int32 → Int32 → Int32 → Option (zH × Int32)} (h11 : ∀ σ L st r, gl_X4_clauseHolds_11 c11 σ L st = some r → zGW X 37 krI 11 σ L st r) : ∀ σ L st r, gl_X4_clauseHolds_47 (j_X4_clauseHolds_47 c11) σ L st = some r → zGW X 37 krI 47 σ L st r := by
  intro σ L st r h
  unfold gl_X4_clauseHolds_47 at h
  split at h
  · exact zin_ok (hy_X4_clauseHolds hX) bk_X4_clauseHolds (fun t f hf => by
    by_cases e93 : t = 93
    · rw [if_pos e93] at hf; subst e93; cases hf; exact (s_X4_clauseHolds_93 hX h11)
    rw [if_neg e93] at hf
    cases hf) ((e_X4_clauseHolds_47 _ _ _ _ _ _ _ _ _).symm.trans h)
  · cases h
noncomputable def k_X4_clauseHolds_11 (c185 : zH → Nat → Int32 → Option (zH × Int32)) : Nat → zH → Nat → Int32 → Nat → Int32 → Int32 → Int32 → Option (zH × Int32)
  | 0, _, _, _, _, _, _, _ => none
  | n + 1, σ, i0, x1, i2, x3, x4, x5 =>
    ix (x1 + (1 : Int32)) 13 fun j1 =>
    if x5 < (σ.1 25 (i0 + 0) j1) then
      ix x5 400 fun j2 =>
      if (σ.1 26 (i0 + 0) j2) = (70 : Int32) then
        (j_X4_clauseHolds_47 (k_X4_clauseHolds_11 c185 n)) σ i0 x1 i2 x3 x4 x5 (σ.1 26 (i0 + 0) j2)
      else
        if (σ.1 26 (i0 + 0) j2) = (71 : Int32) then
          (j_X4_clauseHolds_47 (k_X4_clauseHolds_11 c185 n)) σ i0 x1 i2 x3 x4 x5 (σ.1 26 (i0 + 0) j2)
        else
          if (σ.1 26 (i0 + 0) j2) = (30 : Int32) then
            if x4 < (1 : Int32) then
              some (σ, (0 : Int32))
            else
              ix (x4 - (1 : Int32)) 60 fun j8 =>
              ix (x4 - (1 : Int32)) 60 fun j10 =>
              zlet (uL σ 28 (i0 + 0) j10 ((1 : Int64) - (σ.2 28 (i0 + 0) j8))) fun σ9 =>
              (k_X4_clauseHolds_11 c185 n) σ9 i0 x1 i2 x3 x4 (x5 + (1 : Int32))
          else
            if x4 < (2 : Int32) then
              some (σ, (0 : Int32))
            else
              ix ((x4 + (-1 : Int32)) - (1 : Int32)) 60 fun j3 =>
              ix (x4 + (-1 : Int32)) 60 fun j4 =>
              (d_X4_combine σ (σ.1 26 (i0 + 0) j2) (σ.2 28 (i0 + 0) j3) (σ.2 28 (i0 + 0) j4)).bind fun p5 =>
              ix ((x4 + (-1 : Int32)) - (1 : Int32)) 60 fun j7 =>
              zlet (uL p5.1 28 (i0 + 0) j7 p5.2) fun σ6 =>
              (k_X4_clauseHolds_11 c185 n) σ6 i0 x1 i2 x3 (x4 + (-1 : Int32)) (x5 + (1 : Int32))
    else
      c185 σ i0 x4
theorem e_X4_clauseHolds_11 (c185 : zH → Nat → Int32 → Option (zH × Int32)) (n : Nat) (σ : zH) (i0 : Nat) (x1 : Int32) (i2 : Nat) (x3 : Int32) (x4 : Int32) (x5 : Int32) (y6 : zAV) : k_X4_clauseHolds_11 c185 (n + 1) σ i0 x1 i2 x3 x4 x5 = zin cc_X4_clauseHolds (fun t => if t = 11 then some (gl_X4_clauseHolds_11 (k_X4_clauseHolds_11 c185 n)) else if t = 47 then some (gl_X4_clauseHolds_47 (j_X4_clauseHolds_47 (k_X4_clauseHolds_11 c185 n))) else if t = 185 then some (gl_X4_clauseHolds_185 c185) else none) 1 krI b_X4_clauseHolds 11 σ [vR 4 i0, vI x1, vR 8 i2, vI x3, vI x4, vI x5, y6] [] := by
  rw [k_X4_clauseHolds_11]
  refine Eq.symm ((zin_b (es := q_X4_clauseHolds_11) rfl).trans ?_)
  refine (t_X4_clauseHolds_11 _ _ _ _ _ _ _ _ _ _).trans ?_
  refine (x_iald (N := 13) rfl rfl).trans (pix fun _ => ?_)
  refine x_icmp.trans (pif_ge ?_ ?_)
  · exact (zrun_c rfl).trans (glr_X4_clauseHolds_185 _ _ _ _ _ _ _ _ _)
  · refine (t_X4_clauseHolds_24 _ _ _ _ _ _ _ _ _).trans ?_
    refine (x_iald (N := 400) rfl rfl).trans (pix fun _ => ?_)
    refine (t_X4_clauseHolds_31 _ _ _ _ _ _ _ _ _ _ _).trans ?_
    refine x_icmp.trans (pif_eq ?_ ?_)
    · exact (zrun_c rfl).trans (glr_X4_clauseHolds_47 _ _ _ _ _ _ _ _ _)
    · refine (t_X4_clauseHolds_40 _ _ _ _ _ _ _ _ _ _).trans ?_
      refine x_icmp.trans (pif_ne ?_ ?_)
      · refine (zrun_b (es := q_X4_clauseHolds_100) rfl rfl).trans ?_
        refine (t_X4_clauseHolds_100 _ _ _ _ _ _ _ _ _ _).trans ?_
        refine x_icmp.trans (pif_ne ?_ ?_)
        · refine (zrun_b (es := q_X4_clauseHolds_138) rfl rfl).trans ?_
          refine (t_X4_clauseHolds_138 _ _ _ _ _ _ _ _ _ _).trans ?_
          refine x_icmp.trans (pif_ge ?_ ?_)
          · refine (zrun_b (es := q_X4_clauseHolds_146) rfl rfl).trans ?_
            refine (t_X4_clauseHolds_146 _ _ _ _ _ _ _ _ _ _ _ _).trans ?_
            refine (x_lald (N := 60) rfl rfl).trans (pix fun _ => ?_)
            refine (t_X4_clauseHolds_168 _ _ _ _ _ _ _ _ _ _ _ _ _).trans ?_
            refine (x_lald (N := 60) rfl rfl).trans (pix fun _ => ?_)
            refine (x_callS rfl rfl rfl rfl).trans ((cl_X4_clauseHolds_X4_combine _ _ _).trans ((gr_X4_combine _ _ _ _ _).trans (pbd fun _ => ?_)))
            refine (x_last (N := 60) rfl rfl).trans (pix fun _ => plt fun _ => ?_)
            refine (t_X4_clauseHolds_179 _ _ _ _ _ _ _ _ _ _).trans ?_
            refine x_goto.trans ?_
            exact (zrun_c rfl).trans (glr_X4_clauseHolds_11 _ _ _ _ _ _ _ _ _)
          · refine (t_X4_clauseHolds_144 _ _ _ _ _ _ _ _ _ _).trans ?_
            exact x_zret.trans (tv_l (by decide +kernel))
        · refine (t_X4_clauseHolds_107 _ _ _ _ _ _ _ _ _ _).trans ?_
          refine x_icmp.trans (pif_ge ?_ ?_)
          · refine (zrun_b (es := q_X4_clauseHolds_115) rfl rfl).trans ?_
            refine (t_X4_clauseHolds_115 _ _ _ _ _ _ _ _ _ _ _ _).trans ?_
            refine (x_lald (N := 60) rfl rfl).trans (pix fun _ => ?_)
            refine (t_X4_clauseHolds_133 _ _ _ _ _ _ _ _ _ _ _ _ _).trans ?_
            refine (x_last (N := 60) rfl rfl).trans (pix fun _ => plt fun _ => ?_)
            refine x_goto.trans ?_
            refine (zrun_b (es := q_X4_clauseHolds_179) rfl rfl).trans ?_
            refine (t_X4_clauseHolds_179 _ _ _ _ _ _ _ _ _ _).trans ?_
            refine x_goto.trans ?_
            exact (zrun_c rfl).trans (glr_X4_clauseHolds_11 _ _ _ _ _ _ _ _ _)
          · refine (t_X4_clauseHolds_113 _ _ _ _ _ _ _ _ _ _).trans ?_
            exact x_zret.trans (tv_l (by decide +kernel))
      · refine x_cut.trans ?_
        exact (zrun_c rfl).trans (glr_X4_clauseHolds_47 _ _ _ _ _ _ _ _ _)
theorem s_X4_clauseHolds_11 {X : zX} (hX : zHX X) {c185 : zH → Nat → Int32 → Option (zH × Int32)} (h185 : ∀ σ L st r, gl_X4_clauseHolds_185 c185 σ L st = some r → zGW X 37 krI 185 σ L st r) : ∀ n σ L st r, gl_X4_clauseHolds_11 (k_X4_clauseHolds_11 c185 n) σ L st = some r → zGW X 37 krI 11 σ L st r := by
  intro n
  induction n with
  | zero =>
    intro σ L st r h
    unfold gl_X4_clauseHolds_11 at h
    split at h <;> cases h
  | succ n ih =>
    intro σ L st r h
    unfold gl_X4_clauseHolds_11 at h
    split at h
    · exact zin_ok (hy_X4_clauseHolds hX) bk_X4_clauseHolds (fun t f hf => by
      by_cases e11 : t = 11
      · rw [if_pos e11] at hf; subst e11; cases hf; exact ih
      rw [if_neg e11] at hf
      by_cases e47 : t = 47
      · rw [if_pos e47] at hf; subst e47; cases hf; exact (s_X4_clauseHolds_47 hX ih)
      rw [if_neg e47] at hf
      by_cases e185 : t = 185
      · rw [if_pos e185] at hf; subst e185; cases hf; exact h185
      rw [if_neg e185] at hf
      cases hf) ((e_X4_clauseHolds_11 _ _ _ _ _ _ _ _ _ _).symm.trans h)
    · cases h
noncomputable def j_X4_clauseHolds_185  (σ : zH) (i0 : Nat) (x4 : Int32) : Option (zH × Int32) :=
  if x4 = (1 : Int32) then
    if (lg_cmp (σ.2 28 (i0 + 0) 0) (0 : Int64)) = 0 then
      some (σ, (0 : Int32))
    else
      some (σ, (1 : Int32))
  else
    some (σ, (0 : Int32))
theorem e_X4_clauseHolds_185  (σ : zH) (i0 : Nat) (x4 : Int32) (y1 : zAV) (y2 : zAV) (y3 : zAV) (y5 : zAV) (y6 : zAV) : j_X4_clauseHolds_185 σ i0 x4 = zin cc_X4_clauseHolds (fun t => none) 1 krI b_X4_clauseHolds 185 σ [vR 4 i0, y1, y2, y3, vI x4, y5, y6] [] := by
  unfold j_X4_clauseHolds_185
  refine Eq.symm ((zin_b (es := q_X4_clauseHolds_185) rfl).trans ?_)
  refine (t_X4_clauseHolds_185 _ _ _ _ _ _ _ _ _ _).trans ?_
  refine x_icmp.trans (pif_ne ?_ ?_)
  · refine (zrun_b (es := q_X4_clauseHolds_206) rfl rfl).trans ?_
    refine (t_X4_clauseHolds_206 _ _ _ _ _ _ _ _ _ _).trans ?_
    exact x_zret.trans (tv_l (by decide +kernel))
  · refine (t_X4_clauseHolds_191 _ _ _ _ _ _ _ _ _ _).trans ?_
    refine ((x_lald (N := 60) rfl rfl).trans (ix_l 0 (by decide +kernel))).trans ?_
    refine (t_X4_clauseHolds_197 _ _ _ _ _ _ _ _ _ _ _).trans ?_
    refine x_if.trans (pif_eq ?_ ?_)
    · refine (zrun_b (es := q_X4_clauseHolds_206) rfl rfl).trans ?_
      refine (t_X4_clauseHolds_206 _ _ _ _ _ _ _ _ _ _).trans ?_
      exact x_zret.trans (tv_l (by decide +kernel))
    · refine (t_X4_clauseHolds_202 _ _ _ _ _ _ _ _ _ _).trans ?_
      refine x_goto.trans ?_
      refine (zrun_b (es := q_X4_clauseHolds_207) rfl rfl).trans ?_
      exact x_zret.trans (tv_l (by decide +kernel))
theorem s_X4_clauseHolds_185 {X : zX} (hX : zHX X)   : ∀ σ L st r, gl_X4_clauseHolds_185 j_X4_clauseHolds_185 σ L st = some r → zGW X 37 krI 185 σ L st r := by
  intro σ L st r h
  unfold gl_X4_clauseHolds_185 at h
  split at h
  · exact zin_ok (hy_X4_clauseHolds hX) bk_X4_clauseHolds (fun t f hf => by
    cases hf) ((e_X4_clauseHolds_185 _ _ _ _ _ _ _ _).symm.trans h)
  · cases h
noncomputable def d_X4_clauseHolds (σ : zH) (ia0 : Nat) (xa1 : Int32) (ia2 : Nat) (xa3 : Int32) : Option (zH × Int32) :=
  ix xa1 13 fun j1 =>
  (k_X4_clauseHolds_11 j_X4_clauseHolds_185 zN) σ ia0 xa1 ia2 xa3 (0 : Int32) (σ.1 25 (ia0 + 0) j1)
theorem e_X4_clauseHolds (σ : zH) (ia0 : Nat) (xa1 : Int32) (ia2 : Nat) (xa3 : Int32) : d_X4_clauseHolds σ ia0 xa1 ia2 xa3 = zin cc_X4_clauseHolds (fun t => if t = 11 then some (gl_X4_clauseHolds_11 (k_X4_clauseHolds_11 j_X4_clauseHolds_185 zN)) else none) 1 krI b_X4_clauseHolds 0 σ [vR 4 ia0, vI xa1, vR 8 ia2, vI xa3, vU, vU, vU] [] := by
  unfold d_X4_clauseHolds
  refine Eq.symm ((zin_b (es := q_X4_clauseHolds_0) rfl).trans ?_)
  refine (t_X4_clauseHolds_0 _ _ _ _ _ _ _ _ _ _).trans ?_
  refine (x_iald (N := 13) rfl rfl).trans (pix fun _ => ?_)
  refine (t_X4_clauseHolds_9 _ _ _ _ _ _ _ _ _ _).trans ?_
  refine x_cut.trans ?_
  exact (zrun_c rfl).trans (glr_X4_clauseHolds_11 _ _ _ _ _ _ _ _ _)
noncomputable def g_X4_clauseHolds {ρ : Type} (σ : zH) (av : List zAV) (q : zH → zAV → Option ρ) : Option ρ := match av with
  | [.inr (.inr (.inl (4, ia0))), .inl xa1, .inr (.inr (.inl (8, ia2))), .inl xa3] => (d_X4_clauseHolds σ ia0 xa1 ia2 xa3).bind fun p => q p.1 (vI p.2)
  | _ => none
theorem gr_X4_clauseHolds {ρ : Type} (σ : zH) (ia0 : Nat) (xa1 : Int32) (ia2 : Nat) (xa3 : Int32) (q : zH → zAV → Option ρ) : g_X4_clauseHolds σ [vR 4 ia0, vI xa1, vR 8 ia2, vI xa3] q = (d_X4_clauseHolds σ ia0 xa1 ia2 xa3).bind fun p => q p.1 (vI p.2) := rfl
theorem c_X4_clauseHolds {ρ : Type} {X : zX} (hX : zHX X) {σ : zH} {av : List zAV} {q : zH → zAV → Option ρ} {r : ρ} (h : g_X4_clauseHolds σ av q = some r) (hv : ∀ a ∈ av, zval X a) : zcon X 37 σ av q r := by
  unfold g_X4_clauseHolds at h
  split at h
  · exact zcon_I (n := 37) (ml := 7) (rc := 1) (st := 0) (kd := 4) (np := 3) (by decide +kernel) (by decide) ⟨_, _, rfl, rfl⟩ (Nat.le_of_ble_eq_true rfl) hv h (fun y h1 => (zin_ok (hy_X4_clauseHolds hX) bk_X4_clauseHolds (fun t f hf => by
      by_cases e11 : t = 11
      · rw [if_pos e11] at hf; subst e11; cases hf; exact ((fun σ L st r h => s_X4_clauseHolds_11 hX (s_X4_clauseHolds_185 hX) zN σ L st r h))
      rw [if_neg e11] at hf
      cases hf) ((e_X4_clauseHolds _ _ _ _ _).symm.trans h1)))
  · cases h
/-! SleepWaves$Law.holds(ZLSleepWaves$State;I)Z -/
def q_X4_holds_0 : List zEnt := zEk 0 (.iconst 0) 1 0 :: zE 1 (.istore 4) 2 :: [zE 3 .nop 0]
def q_X4_holds_35 : List zEnt := zE 35 .ireturn 1 :: []
def q_X4_holds_34 : List zEnt := zEk 34 (.iconst 1) 1 1 :: q_X4_holds_35
def q_X4_holds_31 : List zEnt := zEa 31 (.ifCond .eq 5) 3 36 :: q_X4_holds_34
def q_X4_holds_28 : List zEnt := zEc 28 (.invokevirtual 36) 3 37 4 58 0 :: q_X4_holds_31
def q_X4_holds_23 : List zEnt := zE 23 (.aload_n 0) 1 :: zE 24 (.iload 4) 2 :: zE 26 (.aload_n 2) 1 :: zE 27 (.iload_n 3) 1 :: q_X4_holds_28
def q_X4_holds_20 : List zEnt := zEa 20 (.if_icmp .ne 16) 3 36 :: q_X4_holds_23
def q_X4_holds_19 : List zEnt := zE 19 (.iload_n 1) 1 :: q_X4_holds_20
def q_X4_holds_18 : List zEnt := zE 18 .baload 1 :: q_X4_holds_19
def q_X4_holds_12 : List zEnt := zE 12 (.aload_n 0) 1 :: zEf 13 (.getfield 9) 3 4 1 78 (1, 24, 0) :: zE 16 (.iload 4) 2 :: q_X4_holds_18
def q_X4_holds_9 : List zEnt := zEa 9 (.if_icmp .ge 33) 3 42 :: q_X4_holds_12
def q_X4_holds_3 : List zEnt := zE 3 (.iload 4) 2 :: zE 5 (.aload_n 0) 1 :: zEf 6 (.getfield 29) 3 4 0 77 (0, 0, 0) :: q_X4_holds_9
def q_X4_holds_39 : List zEnt := zEa 39 (.goto (-36)) 3 3 :: []
def q_X4_holds_36 : List zEnt := zEk 36 (.iinc 4 1) 3 1 :: q_X4_holds_39
def q_X4_holds_43 : List zEnt := zE 43 .ireturn 1 :: []
def q_X4_holds_42 : List zEnt := zEk 42 (.iconst 0) 1 0 :: q_X4_holds_43
def b_X4_holds : List (Nat × List zEnt) := [(0, q_X4_holds_0), (3, q_X4_holds_3), (36, q_X4_holds_36), (42, q_X4_holds_42)]
theorem bk_X4_holds : zchB 36 b_X4_holds = true := by decide +kernel
noncomputable def cc_X4_holds {ρ : Type} : Nat → zH → List zAV → (zH → zAV → Option ρ) → Option ρ := fun n σ av q => if n = 37 then g_X4_clauseHolds σ av q else none
theorem cs_X4_holds {ρ : Type} {X : zX} (hX : zHX X) : zCS X (cc_X4_holds (ρ := ρ)) := by
  intro n σ av q r h hv
  unfold cc_X4_holds at h
  by_cases e_X4_clauseHolds : n = 37
  · rw [if_pos e_X4_clauseHolds] at h
    subst e_X4_clauseHolds
    exact c_X4_clauseHolds hX h hv
  rw [if_neg e_X4_clauseHolds] at h
  cases h
theorem cl_X4_holds_X4_clauseHolds {ρ : Type} (σ : zH) (av : List zAV) (q : zH → zAV → Option ρ) : cc_X4_holds 37 σ av q = g_X4_clauseHolds σ av q := rfl
theorem hy_X4_holds {ρ : Type} {X : zX} (hX : zHX X) : zHY X 36 (cc_X4_holds (ρ := ρ)) := zHX.hY hX (cs_X4_holds hX) (zmok_all 36 (by decide))
def gl_X4_holds_3 {ρ : Type} (f : zH → Nat → Int32 → Nat → Int32 → Int32 → Option ρ) (σ : zH) (L st : List zAV) : Option ρ := match L, st with
  | [.inr (.inr (.inl (4, i0))), .inl x1, .inr (.inr (.inl (8, i2))), .inl x3, .inl x4], [] => f σ i0 x1 i2 x3 x4
  | _, _ => none
theorem glr_X4_holds_3 {ρ : Type} (f : zH → Nat → Int32 → Nat → Int32 → Int32 → Option ρ) (σ : zH) (i0 : Nat) (x1 : Int32) (i2 : Nat) (x3 : Int32) (x4 : Int32)  : gl_X4_holds_3 f σ [vR 4 i0, vI x1, vR 8 i2, vI x3, vI x4] [] = f σ i0 x1 i2 x3 x4 := rfl
theorem t_X4_holds_0 {G : Nat → zH → List zAV → List zAV → Option (zH × Int32)} (es : List zEnt) (σ : zH) (i0 : Nat) (x1 : Int32) (i2 : Nat) (x3 : Int32) (y4 : zAV) (w0 : Int32) : zev cc_X4_holds G 1 krI (zEk 0 (.iconst 0) 1 w0 :: zE 1 (.istore 4) 2 :: es) σ [vR 4 i0, vI x1, vR 8 i2, vI x3, y4] [] = zev cc_X4_holds G 1 krI es σ [vR 4 i0, vI x1, vR 8 i2, vI x3, vI w0] [] := rfl
theorem t_X4_holds_3 {G : Nat → zH → List zAV → List zAV → Option (zH × Int32)} (es : List zEnt) (σ : zH) (i0 : Nat) (x1 : Int32) (i2 : Nat) (x3 : Int32) (x4 : Int32)   : zev cc_X4_holds G 1 krI (zE 3 (.iload 4) 2 :: zE 5 (.aload_n 0) 1 :: zEf 6 (.getfield 29) 3 4 0 77 (0, 0, 0) :: es) σ [vR 4 i0, vI x1, vR 8 i2, vI x3, vI x4] [] = zev cc_X4_holds G 1 krI es σ [vR 4 i0, vI x1, vR 8 i2, vI x3, vI x4] [vI (σ.1 4 i0 0), vI x4] := rfl
theorem t_X4_holds_12 {G : Nat → zH → List zAV → List zAV → Option (zH × Int32)} (es : List zEnt) (σ : zH) (i0 : Nat) (x1 : Int32) (i2 : Nat) (x3 : Int32) (x4 : Int32)   : zev cc_X4_holds G 1 krI (zE 12 (.aload_n 0) 1 :: zEf 13 (.getfield 9) 3 4 1 78 (1, 24, 0) :: zE 16 (.iload 4) 2 :: es) σ [vR 4 i0, vI x1, vR 8 i2, vI x3, vI x4] [] = zev cc_X4_holds G 1 krI es σ [vR 4 i0, vI x1, vR 8 i2, vI x3, vI x4] [vI x4, vR 24 (i0 + 0)] := rfl
theorem t_X4_holds_19 {G : Nat → zH → List zAV → List zAV → Option (zH × Int32)} (es : List zEnt) (σ : zH) (i0 : Nat) (x1 : Int32) (i2 : Nat) (x3 : Int32) (x4 : Int32) (xs0 : Int32)   : zev cc_X4_holds G 1 krI (zE 19 (.iload_n 1) 1 :: es) σ [vR 4 i0, vI x1, vR 8 i2, vI x3, vI x4] [vI xs0] = zev cc_X4_holds G 1 krI es σ [vR 4 i0, vI x1, vR 8 i2, vI x3, vI x4] [vI x1, vI xs0] := rfl
theorem t_X4_holds_23 {G : Nat → zH → List zAV → List zAV → Option (zH × Int32)} (es : List zEnt) (σ : zH) (i0 : Nat) (x1 : Int32) (i2 : Nat) (x3 : Int32) (x4 : Int32)   : zev cc_X4_holds G 1 krI (zE 23 (.aload_n 0) 1 :: zE 24 (.iload 4) 2 :: zE 26 (.aload_n 2) 1 :: zE 27 (.iload_n 3) 1 :: es) σ [vR 4 i0, vI x1, vR 8 i2, vI x3, vI x4] [] = zev cc_X4_holds G 1 krI es σ [vR 4 i0, vI x1, vR 8 i2, vI x3, vI x4] [vI x3, vR 8 i2, vI x4, vR 4 i0] := rfl
theorem t_X4_holds_34 {G : Nat → zH → List zAV → List zAV → Option (zH × Int32)} (es : List zEnt) (σ : zH)  (y0 : zAV) (y1 : zAV) (y2 : zAV) (y3 : zAV) (y4 : zAV) (w34 : Int32) : zev cc_X4_holds G 1 krI (zEk 34 (.iconst 1) 1 w34 :: es) σ [y0, y1, y2, y3, y4] [] = zev cc_X4_holds G 1 krI es σ [y0, y1, y2, y3, y4] [vI w34] := rfl
theorem t_X4_holds_36 {G : Nat → zH → List zAV → List zAV → Option (zH × Int32)} (es : List zEnt) (σ : zH) (i0 : Nat) (x1 : Int32) (i2 : Nat) (x3 : Int32) (x4 : Int32)  (w36 : Int32) : zev cc_X4_holds G 1 krI (zEk 36 (.iinc 4 1) 3 w36 :: es) σ [vR 4 i0, vI x1, vR 8 i2, vI x3, vI x4] [] = zev cc_X4_holds G 1 krI es σ [vR 4 i0, vI x1, vR 8 i2, vI x3, vI (x4 + w36)] [] := rfl
theorem t_X4_holds_42 {G : Nat → zH → List zAV → List zAV → Option (zH × Int32)} (es : List zEnt) (σ : zH)  (y0 : zAV) (y1 : zAV) (y2 : zAV) (y3 : zAV) (y4 : zAV) (w42 : Int32) : zev cc_X4_holds G 1 krI (zEk 42 (.iconst 0) 1 w42 :: es) σ [y0, y1, y2, y3, y4] [] = zev cc_X4_holds G 1 krI es σ [y0, y1, y2, y3, y4] [vI w42] := rfl
noncomputable def k_X4_holds_3  : Nat → zH → Nat → Int32 → Nat → Int32 → Int32 → Option (zH × Int32)
  | 0, _, _, _, _, _, _ => none
  | n + 1, σ, i0, x1, i2, x3, x4 =>
    if x4 < (σ.1 4 i0 0) then
      ix x4 12 fun j1 =>
      if (σ.1 24 (i0 + 0) j1) = x1 then
        (d_X4_clauseHolds σ i0 x4 i2 x3).bind fun p2 =>
        if p2.2 = 0 then
          (k_X4_holds_3 n) p2.1 i0 x1 i2 x3 (x4 + (1 : Int32))
        else
          some (p2.1, (1 : Int32))
      else
        (k_X4_holds_3 n) σ i0 x1 i2 x3 (x4 + (1 : Int32))
    else
      some (σ, (0 : Int32))
theorem e_X4_holds_3  (n : Nat) (σ : zH) (i0 : Nat) (x1 : Int32) (i2 : Nat) (x3 : Int32) (x4 : Int32)  : k_X4_holds_3 (n + 1) σ i0 x1 i2 x3 x4 = zin cc_X4_holds (fun t => if t = 3 then some (gl_X4_holds_3 (k_X4_holds_3 n)) else none) 1 krI b_X4_holds 3 σ [vR 4 i0, vI x1, vR 8 i2, vI x3, vI x4] [] := by
  rw [k_X4_holds_3]
  refine Eq.symm ((zin_b (es := q_X4_holds_3) rfl).trans ?_)
  refine (t_X4_holds_3 _ _ _ _ _ _ _).trans ?_
  refine x_icmp.trans (pif_ge ?_ ?_)
  · refine (zrun_b (es := q_X4_holds_42) rfl rfl).trans ?_
    refine (t_X4_holds_42 _ _ _ _ _ _ _ _).trans ?_
    exact x_zret.trans (tv_l (by decide +kernel))
  · refine (t_X4_holds_12 _ _ _ _ _ _ _).trans ?_
    refine (x_bald (N := 12) rfl rfl).trans (pix fun _ => ?_)
    refine (t_X4_holds_19 _ _ _ _ _ _ _ _).trans ?_
    refine x_icmp.trans (pif_ne ?_ ?_)
    · refine (zrun_b (es := q_X4_holds_36) rfl rfl).trans ?_
      refine (t_X4_holds_36 _ _ _ _ _ _ _ _).trans ?_
      refine x_goto.trans ?_
      exact (zrun_c rfl).trans (glr_X4_holds_3 _ _ _ _ _ _ _)
    · refine (t_X4_holds_23 _ _ _ _ _ _ _).trans ?_
      refine (x_callV rfl rfl rfl rfl).trans ((cl_X4_holds_X4_clauseHolds _ _ _).trans ((gr_X4_clauseHolds _ _ _ _ _ _).trans (pbd fun _ => ?_)))
      refine x_if.trans (pif_eq ?_ ?_)
      · refine (zrun_b (es := q_X4_holds_36) rfl rfl).trans ?_
        refine (t_X4_holds_36 _ _ _ _ _ _ _ _).trans ?_
        refine x_goto.trans ?_
        exact (zrun_c rfl).trans (glr_X4_holds_3 _ _ _ _ _ _ _)
      · refine (t_X4_holds_34 _ _ _ _ _ _ _ _).trans ?_
        exact x_zret.trans (tv_l (by decide +kernel))
theorem s_X4_holds_3 {X : zX} (hX : zHX X)   : ∀ n σ L st r, gl_X4_holds_3 (k_X4_holds_3 n) σ L st = some r → zGW X 36 krI 3 σ L st r := by
  intro n
  induction n with
  | zero =>
    intro σ L st r h
    unfold gl_X4_holds_3 at h
    split at h <;> cases h
  | succ n ih =>
    intro σ L st r h
    unfold gl_X4_holds_3 at h
    split at h
    · exact zin_ok (hy_X4_holds hX) bk_X4_holds (fun t f hf => by
      by_cases e3 : t = 3
      · rw [if_pos e3] at hf; subst e3; cases hf; exact ih
      rw [if_neg e3] at hf
      cases hf) ((e_X4_holds_3 _ _ _ _ _ _ _).symm.trans h)
    · cases h
noncomputable def d_X4_holds (σ : zH) (ia0 : Nat) (xa1 : Int32) (ia2 : Nat) (xa3 : Int32) : Option (zH × Int32) :=
  (k_X4_holds_3 zN) σ ia0 xa1 ia2 xa3 (0 : Int32)
theorem e_X4_holds (σ : zH) (ia0 : Nat) (xa1 : Int32) (ia2 : Nat) (xa3 : Int32) : d_X4_holds σ ia0 xa1 ia2 xa3 = zin cc_X4_holds (fun t => if t = 3 then some (gl_X4_holds_3 (k_X4_holds_3 zN)) else none) 1 krI b_X4_holds 0 σ [vR 4 ia0, vI xa1, vR 8 ia2, vI xa3, vU] [] := by
  unfold d_X4_holds
  refine Eq.symm ((zin_b (es := q_X4_holds_0) rfl).trans ?_)
  refine (t_X4_holds_0 _ _ _ _ _ _ _ _).trans ?_
  refine x_cut.trans ?_
  exact (zrun_c rfl).trans (glr_X4_holds_3 _ _ _ _ _ _ _)
noncomputable def g_X4_holds {ρ : Type} (σ : zH) (av : List zAV) (q : zH → zAV → Option ρ) : Option ρ := match av with
  | [.inr (.inr (.inl (4, ia0))), .inl xa1, .inr (.inr (.inl (8, ia2))), .inl xa3] => (d_X4_holds σ ia0 xa1 ia2 xa3).bind fun p => q p.1 (vI p.2)
  | _ => none
theorem gr_X4_holds {ρ : Type} (σ : zH) (ia0 : Nat) (xa1 : Int32) (ia2 : Nat) (xa3 : Int32) (q : zH → zAV → Option ρ) : g_X4_holds σ [vR 4 ia0, vI xa1, vR 8 ia2, vI xa3] q = (d_X4_holds σ ia0 xa1 ia2 xa3).bind fun p => q p.1 (vI p.2) := rfl
theorem c_X4_holds {ρ : Type} {X : zX} (hX : zHX X) {σ : zH} {av : List zAV} {q : zH → zAV → Option ρ} {r : ρ} (h : g_X4_holds σ av q = some r) (hv : ∀ a ∈ av, zval X a) : zcon X 36 σ av q r := by
  unfold g_X4_holds at h
  split at h
  · exact zcon_I (n := 36) (ml := 5) (rc := 1) (st := 0) (kd := 4) (np := 3) (by decide +kernel) (by decide) ⟨_, _, rfl, rfl⟩ (Nat.le_of_ble_eq_true rfl) hv h (fun y h1 => (zin_ok (hy_X4_holds hX) bk_X4_holds (fun t f hf => by
      by_cases e3 : t = 3
      · rw [if_pos e3] at hf; subst e3; cases hf; exact ((fun σ L st r h => s_X4_holds_3 hX  zN σ L st r h))
      rw [if_neg e3] at hf
      cases hf) ((e_X4_holds _ _ _ _ _).symm.trans h1)))
  · cases h
/-! SleepWaves$State.bedIsWarm(I)Z -/
def q_X8_bedIsWarm_0 : List zEnt := zEk 0 (.iconst 0) 1 0 :: zE 1 (.istore_n 2) 1 :: [zE 2 .nop 0]
def q_X8_bedIsWarm_55 : List zEnt := zE 55 .ireturn 1 :: []
def q_X8_bedIsWarm_54 : List zEnt := zEk 54 (.iconst 1) 1 1 :: q_X8_bedIsWarm_55
def q_X8_bedIsWarm_51 : List zEnt := zEa 51 (.if_icmp .ge 5) 3 56 :: q_X8_bedIsWarm_54
def q_X8_bedIsWarm_50 : List zEnt := zE 50 .iaload 1 :: q_X8_bedIsWarm_51
def q_X8_bedIsWarm_39 : List zEnt := zE 39 (.aload_n 0) 1 :: zEf 40 (.getfield 48) 3 8 1 88 (0, 0, 0) :: zEk 43 (.iconst 4) 1 4 :: zE 44 .isub 1 :: zE 45 (.aload_n 0) 1 :: zEf 46 (.getfield 25) 3 8 8 104 (1, 33, 0) :: zE 49 (.iload_n 2) 1 :: q_X8_bedIsWarm_50
def q_X8_bedIsWarm_36 : List zEnt := zEa 36 (.if_icmp .ne 20) 3 56 :: q_X8_bedIsWarm_39
def q_X8_bedIsWarm_35 : List zEnt := zE 35 .iaload 1 :: q_X8_bedIsWarm_36
def q_X8_bedIsWarm_27 : List zEnt := zE 27 (.aload_n 0) 1 :: zEf 28 (.getfield 12) 3 8 0 84 (1, 0, 1) :: zEf 31 (.getfield 96) 3 0 3 48 (1, 14, 0) :: zE 34 (.iload_n 1) 1 :: q_X8_bedIsWarm_35
def q_X8_bedIsWarm_26 : List zEnt := zE 26 .iaload 1 :: q_X8_bedIsWarm_27
def q_X8_bedIsWarm_18 : List zEnt := zE 18 (.aload_n 0) 1 :: zEf 19 (.getfield 12) 3 8 0 84 (1, 0, 1) :: zEf 22 (.getfield 96) 3 0 3 48 (1, 14, 0) :: zE 25 (.iload_n 2) 1 :: q_X8_bedIsWarm_26
def q_X8_bedIsWarm_15 : List zEnt := zEa 15 (.if_icmp .eq 41) 3 56 :: q_X8_bedIsWarm_18
def q_X8_bedIsWarm_13 : List zEnt := zE 13 (.iload_n 2) 1 :: zE 14 (.iload_n 1) 1 :: q_X8_bedIsWarm_15
def q_X8_bedIsWarm_10 : List zEnt := zEa 10 (.if_icmp .ge 52) 3 62 :: q_X8_bedIsWarm_13
def q_X8_bedIsWarm_2 : List zEnt := zE 2 (.iload_n 2) 1 :: zE 3 (.aload_n 0) 1 :: zEf 4 (.getfield 12) 3 8 0 84 (1, 0, 1) :: zEf 7 (.getfield 74) 3 0 0 31 (0, 0, 0) :: q_X8_bedIsWarm_10
def q_X8_bedIsWarm_59 : List zEnt := zEa 59 (.goto (-57)) 3 2 :: []
def q_X8_bedIsWarm_56 : List zEnt := zEk 56 (.iinc 2 1) 3 1 :: q_X8_bedIsWarm_59
def q_X8_bedIsWarm_63 : List zEnt := zE 63 .ireturn 1 :: []
def q_X8_bedIsWarm_62 : List zEnt := zEk 62 (.iconst 0) 1 0 :: q_X8_bedIsWarm_63
def b_X8_bedIsWarm : List (Nat × List zEnt) := [(0, q_X8_bedIsWarm_0), (2, q_X8_bedIsWarm_2), (56, q_X8_bedIsWarm_56), (62, q_X8_bedIsWarm_62)]
theorem bk_X8_bedIsWarm : zchB 77 b_X8_bedIsWarm = true := by decide +kernel
theorem hy_X8_bedIsWarm {ρ : Type} {X : zX} (hX : zHX X) : zHY X 77 (zc0 (ρ := ρ)) := zHX.hY hX (zc0_ok X) (zmok_all 77 (by decide))
def gl_X8_bedIsWarm_2 {ρ : Type} (f : zH → Nat → Int32 → Int32 → Option ρ) (σ : zH) (L st : List zAV) : Option ρ := match L, st with
  | [.inr (.inr (.inl (8, i0))), .inl x1, .inl x2], [] => f σ i0 x1 x2
  | _, _ => none
theorem glr_X8_bedIsWarm_2 {ρ : Type} (f : zH → Nat → Int32 → Int32 → Option ρ) (σ : zH) (i0 : Nat) (x1 : Int32) (x2 : Int32)  : gl_X8_bedIsWarm_2 f σ [vR 8 i0, vI x1, vI x2] [] = f σ i0 x1 x2 := rfl
theorem t_X8_bedIsWarm_0 {G : Nat → zH → List zAV → List zAV → Option (zH × Int32)} (es : List zEnt) (σ : zH) (i0 : Nat) (x1 : Int32) (y2 : zAV) (w0 : Int32) : zev zc0 G 1 krI (zEk 0 (.iconst 0) 1 w0 :: zE 1 (.istore_n 2) 1 :: es) σ [vR 8 i0, vI x1, y2] [] = zev zc0 G 1 krI es σ [vR 8 i0, vI x1, vI w0] [] := rfl
theorem t_X8_bedIsWarm_2 {G : Nat → zH → List zAV → List zAV → Option (zH × Int32)} (es : List zEnt) (σ : zH) (i0 : Nat) (x1 : Int32) (x2 : Int32)   : zev zc0 G 1 krI (zE 2 (.iload_n 2) 1 :: zE 3 (.aload_n 0) 1 :: zEf 4 (.getfield 12) 3 8 0 84 (1, 0, 1) :: zEf 7 (.getfield 74) 3 0 0 31 (0, 0, 0) :: es) σ [vR 8 i0, vI x1, vI x2] [] = zev zc0 G 1 krI es σ [vR 8 i0, vI x1, vI x2] [vI (σ.1 0 (i0 + 1) 0), vI x2] := rfl
theorem t_X8_bedIsWarm_13 {G : Nat → zH → List zAV → List zAV → Option (zH × Int32)} (es : List zEnt) (σ : zH) (i0 : Nat) (x1 : Int32) (x2 : Int32)   : zev zc0 G 1 krI (zE 13 (.iload_n 2) 1 :: zE 14 (.iload_n 1) 1 :: es) σ [vR 8 i0, vI x1, vI x2] [] = zev zc0 G 1 krI es σ [vR 8 i0, vI x1, vI x2] [vI x1, vI x2] := rfl
theorem t_X8_bedIsWarm_18 {G : Nat → zH → List zAV → List zAV → Option (zH × Int32)} (es : List zEnt) (σ : zH) (i0 : Nat) (x1 : Int32) (x2 : Int32)   : zev zc0 G 1 krI (zE 18 (.aload_n 0) 1 :: zEf 19 (.getfield 12) 3 8 0 84 (1, 0, 1) :: zEf 22 (.getfield 96) 3 0 3 48 (1, 14, 0) :: zE 25 (.iload_n 2) 1 :: es) σ [vR 8 i0, vI x1, vI x2] [] = zev zc0 G 1 krI es σ [vR 8 i0, vI x1, vI x2] [vI x2, vR 14 ((i0 + 1) + 0)] := rfl
theorem t_X8_bedIsWarm_27 {G : Nat → zH → List zAV → List zAV → Option (zH × Int32)} (es : List zEnt) (σ : zH) (i0 : Nat) (x1 : Int32) (x2 : Int32) (xs0 : Int32)   : zev zc0 G 1 krI (zE 27 (.aload_n 0) 1 :: zEf 28 (.getfield 12) 3 8 0 84 (1, 0, 1) :: zEf 31 (.getfield 96) 3 0 3 48 (1, 14, 0) :: zE 34 (.iload_n 1) 1 :: es) σ [vR 8 i0, vI x1, vI x2] [vI xs0] = zev zc0 G 1 krI es σ [vR 8 i0, vI x1, vI x2] [vI x1, vR 14 ((i0 + 1) + 0), vI xs0] := rfl
theorem t_X8_bedIsWarm_39 {G : Nat → zH → List zAV → List zAV → Option (zH × Int32)} (es : List zEnt) (σ : zH) (i0 : Nat) (x1 : Int32) (x2 : Int32)  (w43 : Int32) : zev zc0 G 1 krI (zE 39 (.aload_n 0) 1 :: zEf 40 (.getfield 48) 3 8 1 88 (0, 0, 0) :: zEk 43 (.iconst 4) 1 w43 :: zE 44 .isub 1 :: zE 45 (.aload_n 0) 1 :: zEf 46 (.getfield 25) 3 8 8 104 (1, 33, 0) :: zE 49 (.iload_n 2) 1 :: es) σ [vR 8 i0, vI x1, vI x2] [] = zev zc0 G 1 krI es σ [vR 8 i0, vI x1, vI x2] [vI x2, vR 33 (i0 + 0), vI ((σ.1 8 i0 1) - w43)] := rfl
theorem t_X8_bedIsWarm_54 {G : Nat → zH → List zAV → List zAV → Option (zH × Int32)} (es : List zEnt) (σ : zH)  (y0 : zAV) (y1 : zAV) (y2 : zAV) (w54 : Int32) : zev zc0 G 1 krI (zEk 54 (.iconst 1) 1 w54 :: es) σ [y0, y1, y2] [] = zev zc0 G 1 krI es σ [y0, y1, y2] [vI w54] := rfl
theorem t_X8_bedIsWarm_56 {G : Nat → zH → List zAV → List zAV → Option (zH × Int32)} (es : List zEnt) (σ : zH) (i0 : Nat) (x1 : Int32) (x2 : Int32)  (w56 : Int32) : zev zc0 G 1 krI (zEk 56 (.iinc 2 1) 3 w56 :: es) σ [vR 8 i0, vI x1, vI x2] [] = zev zc0 G 1 krI es σ [vR 8 i0, vI x1, vI (x2 + w56)] [] := rfl
theorem t_X8_bedIsWarm_62 {G : Nat → zH → List zAV → List zAV → Option (zH × Int32)} (es : List zEnt) (σ : zH)  (y0 : zAV) (y1 : zAV) (y2 : zAV) (w62 : Int32) : zev zc0 G 1 krI (zEk 62 (.iconst 0) 1 w62 :: es) σ [y0, y1, y2] [] = zev zc0 G 1 krI es σ [y0, y1, y2] [vI w62] := rfl
noncomputable def k_X8_bedIsWarm_2  : Nat → zH → Nat → Int32 → Int32 → Option (zH × Int32)
  | 0, _, _, _, _ => none
  | n + 1, σ, i0, x1, x2 =>
    if x2 < (σ.1 0 (i0 + 1) 0) then
      if x2 = x1 then
        (k_X8_bedIsWarm_2 n) σ i0 x1 (x2 + (1 : Int32))
      else
        ix x2 12 fun j1 =>
        ix x1 12 fun j2 =>
        if (σ.1 14 ((i0 + 1) + 0) j1) = (σ.1 14 ((i0 + 1) + 0) j2) then
          ix x2 12 fun j3 =>
          if ((σ.1 8 i0 1) - (4 : Int32)) < (σ.1 33 (i0 + 0) j3) then
            some (σ, (1 : Int32))
          else
            (k_X8_bedIsWarm_2 n) σ i0 x1 (x2 + (1 : Int32))
        else
          (k_X8_bedIsWarm_2 n) σ i0 x1 (x2 + (1 : Int32))
    else
      some (σ, (0 : Int32))
theorem e_X8_bedIsWarm_2  (n : Nat) (σ : zH) (i0 : Nat) (x1 : Int32) (x2 : Int32)  : k_X8_bedIsWarm_2 (n + 1) σ i0 x1 x2 = zin zc0 (fun t => if t = 2 then some (gl_X8_bedIsWarm_2 (k_X8_bedIsWarm_2 n)) else none) 1 krI b_X8_bedIsWarm 2 σ [vR 8 i0, vI x1, vI x2] [] := by
  rw [k_X8_bedIsWarm_2]
  refine Eq.symm ((zin_b (es := q_X8_bedIsWarm_2) rfl).trans ?_)
  refine (t_X8_bedIsWarm_2 _ _ _ _ _).trans ?_
  refine x_icmp.trans (pif_ge ?_ ?_)
  · refine (zrun_b (es := q_X8_bedIsWarm_62) rfl rfl).trans ?_
    refine (t_X8_bedIsWarm_62 _ _ _ _ _ _).trans ?_
    exact x_zret.trans (tv_l (by decide +kernel))
  · refine (t_X8_bedIsWarm_13 _ _ _ _ _).trans ?_
    refine x_icmp.trans (pif_eq ?_ ?_)
    · refine (zrun_b (es := q_X8_bedIsWarm_56) rfl rfl).trans ?_
      refine (t_X8_bedIsWarm_56 _ _ _ _ _ _).trans ?_
      refine x_goto.trans ?_
      exact (zrun_c rfl).trans (glr_X8_bedIsWarm_2 _ _ _ _ _)
    · refine (t_X8_bedIsWarm_18 _ _ _ _ _).trans ?_
      refine (x_iald (N := 12) rfl rfl).trans (pix fun _ => ?_)
      refine (t_X8_bedIsWarm_27 _ _ _ _ _ _).trans ?_
      refine (x_iald (N := 12) rfl rfl).trans (pix fun _ => ?_)
      refine x_icmp.trans (pif_ne ?_ ?_)
      · refine (zrun_b (es := q_X8_bedIsWarm_56) rfl rfl).trans ?_
        refine (t_X8_bedIsWarm_56 _ _ _ _ _ _).trans ?_
        refine x_goto.trans ?_
        exact (zrun_c rfl).trans (glr_X8_bedIsWarm_2 _ _ _ _ _)
      · refine (t_X8_bedIsWarm_39 _ _ _ _ _ _).trans ?_
        refine (x_iald (N := 12) rfl rfl).trans (pix fun _ => ?_)
        refine x_icmp.trans (pif_ge ?_ ?_)
        · refine (zrun_b (es := q_X8_bedIsWarm_56) rfl rfl).trans ?_
          refine (t_X8_bedIsWarm_56 _ _ _ _ _ _).trans ?_
          refine x_goto.trans ?_
          exact (zrun_c rfl).trans (glr_X8_bedIsWarm_2 _ _ _ _ _)
        · refine (t_X8_bedIsWarm_54 _ _ _ _ _ _).trans ?_
          exact x_zret.trans (tv_l (by decide +kernel))
theorem s_X8_bedIsWarm_2 {X : zX} (hX : zHX X)   : ∀ n σ L st r, gl_X8_bedIsWarm_2 (k_X8_bedIsWarm_2 n) σ L st = some r → zGW X 77 krI 2 σ L st r := by
  intro n
  induction n with
  | zero =>
    intro σ L st r h
    unfold gl_X8_bedIsWarm_2 at h
    split at h <;> cases h
  | succ n ih =>
    intro σ L st r h
    unfold gl_X8_bedIsWarm_2 at h
    split at h
    · exact zin_ok (hy_X8_bedIsWarm hX) bk_X8_bedIsWarm (fun t f hf => by
      by_cases e2 : t = 2
      · rw [if_pos e2] at hf; subst e2; cases hf; exact ih
      rw [if_neg e2] at hf
      cases hf) ((e_X8_bedIsWarm_2 _ _ _ _ _).symm.trans h)
    · cases h
noncomputable def d_X8_bedIsWarm (σ : zH) (ia0 : Nat) (xa1 : Int32) : Option (zH × Int32) :=
  (k_X8_bedIsWarm_2 zN) σ ia0 xa1 (0 : Int32)
theorem e_X8_bedIsWarm (σ : zH) (ia0 : Nat) (xa1 : Int32) : d_X8_bedIsWarm σ ia0 xa1 = zin zc0 (fun t => if t = 2 then some (gl_X8_bedIsWarm_2 (k_X8_bedIsWarm_2 zN)) else none) 1 krI b_X8_bedIsWarm 0 σ [vR 8 ia0, vI xa1, vU] [] := by
  unfold d_X8_bedIsWarm
  refine Eq.symm ((zin_b (es := q_X8_bedIsWarm_0) rfl).trans ?_)
  refine (t_X8_bedIsWarm_0 _ _ _ _ _ _).trans ?_
  refine x_cut.trans ?_
  exact (zrun_c rfl).trans (glr_X8_bedIsWarm_2 _ _ _ _ _)
noncomputable def g_X8_bedIsWarm {ρ : Type} (σ : zH) (av : List zAV) (q : zH → zAV → Option ρ) : Option ρ := match av with
  | [.inr (.inr (.inl (8, ia0))), .inl xa1] => (d_X8_bedIsWarm σ ia0 xa1).bind fun p => q p.1 (vI p.2)
  | _ => none
theorem gr_X8_bedIsWarm {ρ : Type} (σ : zH) (ia0 : Nat) (xa1 : Int32) (q : zH → zAV → Option ρ) : g_X8_bedIsWarm σ [vR 8 ia0, vI xa1] q = (d_X8_bedIsWarm σ ia0 xa1).bind fun p => q p.1 (vI p.2) := rfl
theorem c_X8_bedIsWarm {ρ : Type} {X : zX} (hX : zHX X) {σ : zH} {av : List zAV} {q : zH → zAV → Option ρ} {r : ρ} (h : g_X8_bedIsWarm σ av q = some r) (hv : ∀ a ∈ av, zval X a) : zcon X 77 σ av q r := by
  unfold g_X8_bedIsWarm at h
  split at h
  · exact zcon_I (n := 77) (ml := 3) (rc := 1) (st := 0) (kd := 8) (np := 1) (by decide +kernel) (by decide) ⟨_, _, rfl, rfl⟩ (Nat.le_of_ble_eq_true rfl) hv h (fun y h1 => (zin_ok (hy_X8_bedIsWarm hX) bk_X8_bedIsWarm (fun t f hf => by
      by_cases e2 : t = 2
      · rw [if_pos e2] at hf; subst e2; cases hf; exact ((fun σ L st r h => s_X8_bedIsWarm_2 hX  zN σ L st r h))
      rw [if_neg e2] at hf
      cases hf) ((e_X8_bedIsWarm _ _ _).symm.trans h1)))
  · cases h
/-! SleepWaves$State.keepWhy(III)V -/
def q_X8_keepWhy_31 : List zEnt := zE 31 .return_ 1 :: []
def q_X8_keepWhy_30 : List zEnt := zE 30 .iastore 1 :: q_X8_keepWhy_31
def q_X8_keepWhy_24 : List zEnt := zE 24 (.aload_n 0) 1 :: zEf 25 (.getfield 34) 3 8 11 109 (1, 36, 0) :: zE 28 (.iload_n 1) 1 :: zE 29 (.iload_n 3) 1 :: q_X8_keepWhy_30
def q_X8_keepWhy_23 : List zEnt := zE 23 .iastore 1 :: q_X8_keepWhy_24
def q_X8_keepWhy_14 : List zEnt := zE 14 (.aload_n 0) 1 :: zEf 15 (.getfield 31) 3 8 10 107 (1, 35, 0) :: zE 18 (.iload_n 1) 1 :: zE 19 (.aload_n 0) 1 :: zEf 20 (.getfield 48) 3 8 1 88 (0, 0, 0) :: q_X8_keepWhy_23
def q_X8_keepWhy_13 : List zEnt := zE 13 .iastore 1 :: q_X8_keepWhy_14
def q_X8_keepWhy_7 : List zEnt := zE 7 (.aload_n 0) 1 :: zEf 8 (.getfield 28) 3 8 9 105 (1, 34, 0) :: zE 11 (.iload_n 1) 1 :: zE 12 (.iload_n 2) 1 :: q_X8_keepWhy_13
def q_X8_keepWhy_6 : List zEnt := zE 6 .iastore 1 :: q_X8_keepWhy_7
def q_X8_keepWhy_0 : List zEnt := zE 0 (.aload_n 0) 1 :: zEf 1 (.getfield 22) 3 8 7 102 (1, 32, 0) :: zE 4 (.iload_n 1) 1 :: zEk 5 (.iconst 0) 1 0 :: q_X8_keepWhy_6
def b_X8_keepWhy : List (Nat × List zEnt) := [(0, q_X8_keepWhy_0)]
theorem bk_X8_keepWhy : zchB 80 b_X8_keepWhy = true := by decide +kernel
theorem hy_X8_keepWhy {ρ : Type} {X : zX} (hX : zHX X) : zHY X 80 (zc0 (ρ := ρ)) := zHX.hY hX (zc0_ok X) (zmok_all 80 (by decide))
theorem t_X8_keepWhy_0 {G : Nat → zH → List zAV → List zAV → Option zH} (es : List zEnt) (σ : zH) (i0 : Nat) (x1 : Int32) (x2 : Int32) (x3 : Int32)  (w5 : Int32) : zev zc0 G 9 krV (zE 0 (.aload_n 0) 1 :: zEf 1 (.getfield 22) 3 8 7 102 (1, 32, 0) :: zE 4 (.iload_n 1) 1 :: zEk 5 (.iconst 0) 1 w5 :: es) σ [vR 8 i0, vI x1, vI x2, vI x3] [] = zev zc0 G 9 krV es σ [vR 8 i0, vI x1, vI x2, vI x3] [vI w5, vI x1, vR 32 (i0 + 0)] := rfl
theorem t_X8_keepWhy_7 {G : Nat → zH → List zAV → List zAV → Option zH} (es : List zEnt) (σ : zH) (i0 : Nat) (x1 : Int32) (x2 : Int32) (x3 : Int32)   : zev zc0 G 9 krV (zE 7 (.aload_n 0) 1 :: zEf 8 (.getfield 28) 3 8 9 105 (1, 34, 0) :: zE 11 (.iload_n 1) 1 :: zE 12 (.iload_n 2) 1 :: es) σ [vR 8 i0, vI x1, vI x2, vI x3] [] = zev zc0 G 9 krV es σ [vR 8 i0, vI x1, vI x2, vI x3] [vI x2, vI x1, vR 34 (i0 + 0)] := rfl
theorem t_X8_keepWhy_14 {G : Nat → zH → List zAV → List zAV → Option zH} (es : List zEnt) (σ : zH) (i0 : Nat) (x1 : Int32) (x3 : Int32) (y2 : zAV)  : zev zc0 G 9 krV (zE 14 (.aload_n 0) 1 :: zEf 15 (.getfield 31) 3 8 10 107 (1, 35, 0) :: zE 18 (.iload_n 1) 1 :: zE 19 (.aload_n 0) 1 :: zEf 20 (.getfield 48) 3 8 1 88 (0, 0, 0) :: es) σ [vR 8 i0, vI x1, y2, vI x3] [] = zev zc0 G 9 krV es σ [vR 8 i0, vI x1, y2, vI x3] [vI (σ.1 8 i0 1), vI x1, vR 35 (i0 + 0)] := rfl
theorem t_X8_keepWhy_24 {G : Nat → zH → List zAV → List zAV → Option zH} (es : List zEnt) (σ : zH) (i0 : Nat) (x1 : Int32) (x3 : Int32) (y2 : zAV)  : zev zc0 G 9 krV (zE 24 (.aload_n 0) 1 :: zEf 25 (.getfield 34) 3 8 11 109 (1, 36, 0) :: zE 28 (.iload_n 1) 1 :: zE 29 (.iload_n 3) 1 :: es) σ [vR 8 i0, vI x1, y2, vI x3] [] = zev zc0 G 9 krV es σ [vR 8 i0, vI x1, y2, vI x3] [vI x3, vI x1, vR 36 (i0 + 0)] := rfl
noncomputable def d_X8_keepWhy (σ : zH) (ia0 : Nat) (xa1 : Int32) (xa2 : Int32) (xa3 : Int32) : Option zH :=
  ix xa1 12 fun j8 =>
  zlet (uI σ 32 (ia0 + 0) j8 (0 : Int32)) fun σ1 =>
  ix xa1 12 fun j7 =>
  zlet (uI σ1 34 (ia0 + 0) j7 xa2) fun σ2 =>
  ix xa1 12 fun j6 =>
  zlet (uI σ2 35 (ia0 + 0) j6 (σ2.1 8 ia0 1)) fun σ3 =>
  ix xa1 12 fun j5 =>
  zlet (uI σ3 36 (ia0 + 0) j5 xa3) fun σ4 =>
  some σ4
theorem e_X8_keepWhy (σ : zH) (ia0 : Nat) (xa1 : Int32) (xa2 : Int32) (xa3 : Int32) : d_X8_keepWhy σ ia0 xa1 xa2 xa3 = zin zc0 (fun t => none) 9 krV b_X8_keepWhy 0 σ [vR 8 ia0, vI xa1, vI xa2, vI xa3] [] := by
  unfold d_X8_keepWhy
  refine Eq.symm ((zin_b (es := q_X8_keepWhy_0) rfl).trans ?_)
  refine (t_X8_keepWhy_0 _ _ _ _ _ _ _).trans ?_
  refine (x_iast (N := 12) rfl rfl).trans (pix fun _ => plt fun _ => ?_)
  refine (t_X8_keepWhy_7 _ _ _ _ _ _).trans ?_
  refine (x_iast (N := 12) rfl rfl).trans (pix fun _ => plt fun _ => ?_)
  refine (t_X8_keepWhy_14 _ _ _ _ _ _).trans ?_
  refine (x_iast (N := 12) rfl rfl).trans (pix fun _ => plt fun _ => ?_)
  refine (t_X8_keepWhy_24 _ _ _ _ _ _).trans ?_
  refine (x_iast (N := 12) rfl rfl).trans (pix fun _ => plt fun _ => ?_)
  exact x_vret
noncomputable def g_X8_keepWhy {ρ : Type} (σ : zH) (av : List zAV) (q : zH → zAV → Option ρ) : Option ρ := match av with
  | [.inr (.inr (.inl (8, ia0))), .inl xa1, .inl xa2, .inl xa3] => (d_X8_keepWhy σ ia0 xa1 xa2 xa3).bind fun σ => q σ vU
  | _ => none
theorem gr_X8_keepWhy {ρ : Type} (σ : zH) (ia0 : Nat) (xa1 : Int32) (xa2 : Int32) (xa3 : Int32) (q : zH → zAV → Option ρ) : g_X8_keepWhy σ [vR 8 ia0, vI xa1, vI xa2, vI xa3] q = (d_X8_keepWhy σ ia0 xa1 xa2 xa3).bind fun σ => q σ vU := rfl
theorem c_X8_keepWhy {ρ : Type} {X : zX} (hX : zHX X) {σ : zH} {av : List zAV} {q : zH → zAV → Option ρ} {r : ρ} (h : g_X8_keepWhy σ av q = some r) (hv : ∀ a ∈ av, zval X a) : zcon X 80 σ av q r := by
  unfold g_X8_keepWhy at h
  split at h
  · exact zcon_V (n := 80) (ml := 4) (rc := 9) (st := 0) (kd := 8) (np := 3) (by decide +kernel) rfl ⟨_, _, rfl, rfl⟩ (Nat.le_of_ble_eq_true rfl) hv h (fun y h1 => (zin_ok (hy_X8_keepWhy hX) bk_X8_keepWhy (fun t f hf => by
      cases hf) ((e_X8_keepWhy _ _ _ _ _).symm.trans h1)))
  · cases h
/-! SleepWaves$State.lieDown(III)V -/
def q_X8_lieDown_37 : List zEnt := zE 37 .return_ 1 :: []
def q_X8_lieDown_34 : List zEnt := zEc 34 (.invokevirtual 102) 3 80 4 63 1 :: q_X8_lieDown_37
def q_X8_lieDown_30 : List zEnt := zE 30 (.aload_n 0) 1 :: zE 31 (.iload_n 1) 1 :: zE 32 (.iload_n 2) 1 :: zE 33 (.iload_n 3) 1 :: q_X8_lieDown_34
def q_X8_lieDown_27 : List zEnt := zEf 27 (.putfield 65) 3 8 5 98 (0, 0, 0) :: q_X8_lieDown_30
def q_X8_lieDown_26 : List zEnt := zE 26 .isub 1 :: q_X8_lieDown_27
def q_X8_lieDown_25 : List zEnt := zE 25 .iaload 1 :: q_X8_lieDown_26
def q_X8_lieDown_12 : List zEnt := zE 12 (.aload_n 0) 1 :: zE 13 .dup 1 :: zEf 14 (.getfield 65) 3 8 5 98 (0, 0, 0) :: zE 17 (.aload_n 0) 1 :: zEf 18 (.getfield 12) 3 8 0 84 (1, 0, 1) :: zEf 21 (.getfield 99) 3 0 1 38 (1, 12, 0) :: zE 24 (.iload_n 1) 1 :: q_X8_lieDown_25
def q_X8_lieDown_9 : List zEnt := zEf 9 (.putfield 54) 3 8 4 96 (0, 0, 0) :: q_X8_lieDown_12
def q_X8_lieDown_0 : List zEnt := zE 0 (.aload_n 0) 1 :: zE 1 .dup 1 :: zEf 2 (.getfield 54) 3 8 4 96 (0, 0, 0) :: zEk 5 (.iconst 1) 1 1 :: zE 6 (.iload_n 1) 1 :: zE 7 .ishl 1 :: zE 8 .ior 1 :: q_X8_lieDown_9
def b_X8_lieDown : List (Nat × List zEnt) := [(0, q_X8_lieDown_0)]
theorem bk_X8_lieDown : zchB 78 b_X8_lieDown = true := by decide +kernel
noncomputable def cc_X8_lieDown {ρ : Type} : Nat → zH → List zAV → (zH → zAV → Option ρ) → Option ρ := fun n σ av q => if n = 80 then g_X8_keepWhy σ av q else none
theorem cs_X8_lieDown {ρ : Type} {X : zX} (hX : zHX X) : zCS X (cc_X8_lieDown (ρ := ρ)) := by
  intro n σ av q r h hv
  unfold cc_X8_lieDown at h
  by_cases e_X8_keepWhy : n = 80
  · rw [if_pos e_X8_keepWhy] at h
    subst e_X8_keepWhy
    exact c_X8_keepWhy hX h hv
  rw [if_neg e_X8_keepWhy] at h
  cases h
theorem cl_X8_lieDown_X8_keepWhy {ρ : Type} (σ : zH) (av : List zAV) (q : zH → zAV → Option ρ) : cc_X8_lieDown 80 σ av q = g_X8_keepWhy σ av q := rfl
theorem hy_X8_lieDown {ρ : Type} {X : zX} (hX : zHX X) : zHY X 78 (cc_X8_lieDown (ρ := ρ)) := zHX.hY hX (cs_X8_lieDown hX) (zmok_all 78 (by decide))
theorem t_X8_lieDown_0 {G : Nat → zH → List zAV → List zAV → Option zH} (es : List zEnt) (σ : zH) (i0 : Nat) (x1 : Int32) (x2 : Int32) (x3 : Int32)  (w5 : Int32) : zev cc_X8_lieDown G 9 krV (zE 0 (.aload_n 0) 1 :: zE 1 .dup 1 :: zEf 2 (.getfield 54) 3 8 4 96 (0, 0, 0) :: zEk 5 (.iconst 1) 1 w5 :: zE 6 (.iload_n 1) 1 :: zE 7 .ishl 1 :: zE 8 .ior 1 :: es) σ [vR 8 i0, vI x1, vI x2, vI x3] [] = zev cc_X8_lieDown G 9 krV es σ [vR 8 i0, vI x1, vI x2, vI x3] [vI ((σ.1 8 i0 4) ||| (w5 <<< (x1 &&& 31))), vR 8 i0] := rfl
theorem t_X8_lieDown_12 {G : Nat → zH → List zAV → List zAV → Option zH} (es : List zEnt) (σ : zH) (i0 : Nat) (x1 : Int32) (x2 : Int32) (x3 : Int32)   : zev cc_X8_lieDown G 9 krV (zE 12 (.aload_n 0) 1 :: zE 13 .dup 1 :: zEf 14 (.getfield 65) 3 8 5 98 (0, 0, 0) :: zE 17 (.aload_n 0) 1 :: zEf 18 (.getfield 12) 3 8 0 84 (1, 0, 1) :: zEf 21 (.getfield 99) 3 0 1 38 (1, 12, 0) :: zE 24 (.iload_n 1) 1 :: es) σ [vR 8 i0, vI x1, vI x2, vI x3] [] = zev cc_X8_lieDown G 9 krV es σ [vR 8 i0, vI x1, vI x2, vI x3] [vI x1, vR 12 ((i0 + 1) + 0), vI (σ.1 8 i0 5), vR 8 i0] := rfl
theorem t_X8_lieDown_26 {G : Nat → zH → List zAV → List zAV → Option zH} (es : List zEnt) (σ : zH) (i0 : Nat) (x1 : Int32) (x2 : Int32) (x3 : Int32) (is0 : Nat) (xs1 : Int32) (xs2 : Int32)   : zev cc_X8_lieDown G 9 krV (zE 26 .isub 1 :: es) σ [vR 8 i0, vI x1, vI x2, vI x3] [vI xs2, vI xs1, vR 8 is0] = zev cc_X8_lieDown G 9 krV es σ [vR 8 i0, vI x1, vI x2, vI x3] [vI (xs1 - xs2), vR 8 is0] := rfl
theorem t_X8_lieDown_30 {G : Nat → zH → List zAV → List zAV → Option zH} (es : List zEnt) (σ : zH) (i0 : Nat) (x1 : Int32) (x2 : Int32) (x3 : Int32)   : zev cc_X8_lieDown G 9 krV (zE 30 (.aload_n 0) 1 :: zE 31 (.iload_n 1) 1 :: zE 32 (.iload_n 2) 1 :: zE 33 (.iload_n 3) 1 :: es) σ [vR 8 i0, vI x1, vI x2, vI x3] [] = zev cc_X8_lieDown G 9 krV es σ [vR 8 i0, vI x1, vI x2, vI x3] [vI x3, vI x2, vI x1, vR 8 i0] := rfl
noncomputable def d_X8_lieDown (σ : zH) (ia0 : Nat) (xa1 : Int32) (xa2 : Int32) (xa3 : Int32) : Option zH :=
  zlet (uI σ 8 ia0 4 ((σ.1 8 ia0 4) ||| ((1 : Int32) <<< (xa1 &&& 31)))) fun σ1 =>
  ix xa1 12 fun j2 =>
  zlet (uI σ1 8 ia0 5 ((σ1.1 8 ia0 5) - (σ1.1 12 ((ia0 + 1) + 0) j2))) fun σ3 =>
  (d_X8_keepWhy σ3 ia0 xa1 xa2 xa3).bind fun σ4 =>
  some σ4
theorem e_X8_lieDown (σ : zH) (ia0 : Nat) (xa1 : Int32) (xa2 : Int32) (xa3 : Int32) : d_X8_lieDown σ ia0 xa1 xa2 xa3 = zin cc_X8_lieDown (fun t => none) 9 krV b_X8_lieDown 0 σ [vR 8 ia0, vI xa1, vI xa2, vI xa3] [] := by
  unfold d_X8_lieDown
  refine Eq.symm ((zin_b (es := q_X8_lieDown_0) rfl).trans ?_)
  refine (t_X8_lieDown_0 _ _ _ _ _ _ _).trans ?_
  refine x_pf0.trans (plt fun _ => ?_)
  refine (t_X8_lieDown_12 _ _ _ _ _ _).trans ?_
  refine (x_iald (N := 12) rfl rfl).trans (pix fun _ => ?_)
  refine (t_X8_lieDown_26 _ _ _ _ _ _ _ _ _).trans ?_
  refine x_pf0.trans (plt fun _ => ?_)
  refine (t_X8_lieDown_30 _ _ _ _ _ _).trans ?_
  refine (x_callV rfl rfl rfl rfl).trans ((cl_X8_lieDown_X8_keepWhy _ _ _).trans ((gr_X8_keepWhy _ _ _ _ _ _).trans (pbd fun _ => ?_)))
  exact x_vret
noncomputable def g_X8_lieDown {ρ : Type} (σ : zH) (av : List zAV) (q : zH → zAV → Option ρ) : Option ρ := match av with
  | [.inr (.inr (.inl (8, ia0))), .inl xa1, .inl xa2, .inl xa3] => (d_X8_lieDown σ ia0 xa1 xa2 xa3).bind fun σ => q σ vU
  | _ => none
theorem gr_X8_lieDown {ρ : Type} (σ : zH) (ia0 : Nat) (xa1 : Int32) (xa2 : Int32) (xa3 : Int32) (q : zH → zAV → Option ρ) : g_X8_lieDown σ [vR 8 ia0, vI xa1, vI xa2, vI xa3] q = (d_X8_lieDown σ ia0 xa1 xa2 xa3).bind fun σ => q σ vU := rfl
theorem c_X8_lieDown {ρ : Type} {X : zX} (hX : zHX X) {σ : zH} {av : List zAV} {q : zH → zAV → Option ρ} {r : ρ} (h : g_X8_lieDown σ av q = some r) (hv : ∀ a ∈ av, zval X a) : zcon X 78 σ av q r := by
  unfold g_X8_lieDown at h
  split at h
  · exact zcon_V (n := 78) (ml := 4) (rc := 9) (st := 0) (kd := 8) (np := 3) (by decide +kernel) rfl ⟨_, _, rfl, rfl⟩ (Nat.le_of_ble_eq_true rfl) hv h (fun y h1 => (zin_ok (hy_X8_lieDown hX) bk_X8_lieDown (fun t f hf => by
      cases hf) ((e_X8_lieDown _ _ _ _ _).symm.trans h1)))
  · cases h
/-! SleepWaves$State.lieDownBy(LSleepWaves$Law;)V -/
def q_X8_lieDownBy_11 : List zEnt := zE 11 .return_ 1 :: []
def q_X8_lieDownBy_8 : List zEnt := zEa 8 (.if_icmp .ge 4) 3 12 :: q_X8_lieDownBy_11
def q_X8_lieDownBy_0 : List zEnt := zE 0 (.aload_n 0) 1 :: zEf 1 (.getfield 48) 3 8 1 88 (0, 0, 0) :: zE 4 (.aload_n 0) 1 :: zEf 5 (.getfield 51) 3 8 3 93 (0, 0, 0) :: q_X8_lieDownBy_8
def q_X8_lieDownBy_12 : List zEnt := zEk 12 (.iconst 0) 1 0 :: zE 13 (.istore_n 2) 1 :: [zE 14 .nop 0]
def q_X8_lieDownBy_60 : List zEnt := zEa 60 (.goto 53) 3 113 :: []
def q_X8_lieDownBy_57 : List zEnt := zEa 57 (.if_icmp .eq 6) 3 63 :: q_X8_lieDownBy_60
def q_X8_lieDownBy_56 : List zEnt := zEk 56 (.iconst (-1)) 1 (-1) :: q_X8_lieDownBy_57
def q_X8_lieDownBy_53 : List zEnt := zEc 53 (.invokevirtual 129) 3 3 3 56 0 :: q_X8_lieDownBy_56
def q_X8_lieDownBy_52 : List zEnt := zE 52 .irem 1 :: q_X8_lieDownBy_53
def q_X8_lieDownBy_41 : List zEnt := zE 41 (.aload_n 0) 1 :: zEf 42 (.getfield 12) 3 8 0 84 (1, 0, 1) :: zE 45 (.iload_n 2) 1 :: zE 46 (.aload_n 0) 1 :: zEf 47 (.getfield 48) 3 8 1 88 (0, 0, 0) :: zEk 50 (.bipush 96) 2 96 :: q_X8_lieDownBy_52
def q_X8_lieDownBy_38 : List zEnt := zEa 38 (.ifCond .ne 75) 3 113 :: q_X8_lieDownBy_41
def q_X8_lieDownBy_35 : List zEnt := zEc 35 (.invokevirtual 126) 3 76 2 55 0 :: q_X8_lieDownBy_38
def q_X8_lieDownBy_33 : List zEnt := zE 33 (.aload_n 0) 1 :: zE 34 (.iload_n 2) 1 :: q_X8_lieDownBy_35
def q_X8_lieDownBy_30 : List zEnt := zEa 30 (.ifCond .ne 83) 3 113 :: q_X8_lieDownBy_33
def q_X8_lieDownBy_27 : List zEnt := zEc 27 (.invokevirtual 92) 3 73 2 54 0 :: q_X8_lieDownBy_30
def q_X8_lieDownBy_25 : List zEnt := zE 25 (.aload_n 0) 1 :: zE 26 (.iload_n 2) 1 :: q_X8_lieDownBy_27
def q_X8_lieDownBy_22 : List zEnt := zEa 22 (.if_icmp .ge 97) 3 119 :: q_X8_lieDownBy_25
def q_X8_lieDownBy_14 : List zEnt := zE 14 (.iload_n 2) 1 :: zE 15 (.aload_n 0) 1 :: zEf 16 (.getfield 12) 3 8 0 84 (1, 0, 1) :: zEf 19 (.getfield 74) 3 0 0 31 (0, 0, 0) :: q_X8_lieDownBy_22
def q_X8_lieDownBy_95 : List zEnt := zEa 95 (.goto 4) 3 99 :: []
def q_X8_lieDownBy_94 : List zEnt := zE 94 .iaload 1 :: q_X8_lieDownBy_95
def q_X8_lieDownBy_86 : List zEnt := zE 86 (.aload_n 0) 1 :: zEf 87 (.getfield 12) 3 8 0 84 (1, 0, 1) :: zEf 90 (.getfield 99) 3 0 1 38 (1, 12, 0) :: zE 93 (.iload_n 2) 1 :: q_X8_lieDownBy_94
def q_X8_lieDownBy_83 : List zEnt := zEa 83 (.ifCond .eq 15) 3 98 :: q_X8_lieDownBy_86
def q_X8_lieDownBy_80 : List zEnt := zEc 80 (.invokevirtual 139) 3 77 2 61 0 :: q_X8_lieDownBy_83
def q_X8_lieDownBy_73 : List zEnt := zE 73 (.aload_n 0) 1 :: zE 74 .dup 1 :: zEf 75 (.getfield 80) 3 8 15 119 (0, 0, 0) :: zE 78 (.aload_n 0) 1 :: zE 79 (.iload_n 2) 1 :: q_X8_lieDownBy_80
def q_X8_lieDownBy_70 : List zEnt := zEa 70 (.ifCond .eq 43) 3 113 :: q_X8_lieDownBy_73
def q_X8_lieDownBy_67 : List zEnt := zEc 67 (.invokevirtual 133) 3 36 4 57 0 :: q_X8_lieDownBy_70
def q_X8_lieDownBy_63 : List zEnt := zE 63 (.aload_n 1) 1 :: zEk 64 (.iconst 1) 1 1 :: zE 65 (.aload_n 0) 1 :: zE 66 (.iload_n 2) 1 :: q_X8_lieDownBy_67
def q_X8_lieDownBy_98 : List zEnt := zEk 98 (.iconst 0) 1 0 :: [zE 99 .nop 0]
def q_X8_lieDownBy_116 : List zEnt := zEa 116 (.goto (-102)) 3 14 :: []
def q_X8_lieDownBy_113 : List zEnt := zEk 113 (.iinc 2 1) 3 1 :: q_X8_lieDownBy_116
def q_X8_lieDownBy_110 : List zEnt := zEc 110 (.invokevirtual 142) 3 78 4 62 1 :: q_X8_lieDownBy_113
def q_X8_lieDownBy_103 : List zEnt := zE 103 (.aload_n 0) 1 :: zE 104 (.iload_n 2) 1 :: zEk 105 (.iconst 3) 1 3 :: zE 106 (.aload_n 0) 1 :: zEf 107 (.getfield 41) 3 8 16 122 (0, 0, 0) :: q_X8_lieDownBy_110
def q_X8_lieDownBy_100 : List zEnt := zEf 100 (.putfield 80) 3 8 15 119 (0, 0, 0) :: q_X8_lieDownBy_103
def q_X8_lieDownBy_99 : List zEnt := zE 99 .iadd 1 :: q_X8_lieDownBy_100
def q_X8_lieDownBy_119 : List zEnt := zE 119 .return_ 1 :: []
def b_X8_lieDownBy : List (Nat × List zEnt) := [(0, q_X8_lieDownBy_0), (12, q_X8_lieDownBy_12), (14, q_X8_lieDownBy_14), (63, q_X8_lieDownBy_63), (98, q_X8_lieDownBy_98), (99, q_X8_lieDownBy_99), (113, q_X8_lieDownBy_113), (119, q_X8_lieDownBy_119)]
theorem bk_X8_lieDownBy : zchB 83 b_X8_lieDownBy = true := by decide +kernel
noncomputable def cc_X8_lieDownBy {ρ : Type} : Nat → zH → List zAV → (zH → zAV → Option ρ) → Option ρ := fun n σ av q => if n = 73 then g_X8_isAsleep σ av q else if n = 76 then g_X8_bedIsTaken σ av q else if n = 3 then g_X0_firstDuty σ av q else if n = 36 then g_X4_holds σ av q else if n = 77 then g_X8_bedIsWarm σ av q else if n = 78 then g_X8_lieDown σ av q else none
theorem cs_X8_lieDownBy {ρ : Type} {X : zX} (hX : zHX X) : zCS X (cc_X8_lieDownBy (ρ := ρ)) := by
  intro n σ av q r h hv
  unfold cc_X8_lieDownBy at h
  by_cases e_X8_isAsleep : n = 73
  · rw [if_pos e_X8_isAsleep] at h
    subst e_X8_isAsleep
    exact c_X8_isAsleep hX h hv
  rw [if_neg e_X8_isAsleep] at h
  by_cases e_X8_bedIsTaken : n = 76
  · rw [if_pos e_X8_bedIsTaken] at h
    subst e_X8_bedIsTaken
    exact c_X8_bedIsTaken hX h hv
  rw [if_neg e_X8_bedIsTaken] at h
  by_cases e_X0_firstDuty : n = 3
  · rw [if_pos e_X0_firstDuty] at h
    subst e_X0_firstDuty
    exact c_X0_firstDuty hX h hv
  rw [if_neg e_X0_firstDuty] at h
  by_cases e_X4_holds : n = 36
  · rw [if_pos e_X4_holds] at h
    subst e_X4_holds
    exact c_X4_holds hX h hv
  rw [if_neg e_X4_holds] at h
  by_cases e_X8_bedIsWarm : n = 77
  · rw [if_pos e_X8_bedIsWarm] at h
    subst e_X8_bedIsWarm
    exact c_X8_bedIsWarm hX h hv
  rw [if_neg e_X8_bedIsWarm] at h
  by_cases e_X8_lieDown : n = 78
  · rw [if_pos e_X8_lieDown] at h
    subst e_X8_lieDown
    exact c_X8_lieDown hX h hv
  rw [if_neg e_X8_lieDown] at h
  cases h
theorem cl_X8_lieDownBy_X8_isAsleep {ρ : Type} (σ : zH) (av : List zAV) (q : zH → zAV → Option ρ) : cc_X8_lieDownBy 73 σ av q = g_X8_isAsleep σ av q := rfl
theorem cl_X8_lieDownBy_X8_bedIsTaken {ρ : Type} (σ : zH) (av : List zAV) (q : zH → zAV → Option ρ) : cc_X8_lieDownBy 76 σ av q = g_X8_bedIsTaken σ av q := rfl
theorem cl_X8_lieDownBy_X0_firstDuty {ρ : Type} (σ : zH) (av : List zAV) (q : zH → zAV → Option ρ) : cc_X8_lieDownBy 3 σ av q = g_X0_firstDuty σ av q := rfl
theorem cl_X8_lieDownBy_X4_holds {ρ : Type} (σ : zH) (av : List zAV) (q : zH → zAV → Option ρ) : cc_X8_lieDownBy 36 σ av q = g_X4_holds σ av q := rfl
theorem cl_X8_lieDownBy_X8_bedIsWarm {ρ : Type} (σ : zH) (av : List zAV) (q : zH → zAV → Option ρ) : cc_X8_lieDownBy 77 σ av q = g_X8_bedIsWarm σ av q := rfl
theorem cl_X8_lieDownBy_X8_lieDown {ρ : Type} (σ : zH) (av : List zAV) (q : zH → zAV → Option ρ) : cc_X8_lieDownBy 78 σ av q = g_X8_lieDown σ av q := rfl
theorem hy_X8_lieDownBy {ρ : Type} {X : zX} (hX : zHX X) : zHY X 83 (cc_X8_lieDownBy (ρ := ρ)) := zHX.hY hX (cs_X8_lieDownBy hX) (zmok_all 83 (by decide))
def gl_X8_lieDownBy_14 {ρ : Type} (f : zH → Nat → Nat → Int32 → Option ρ) (σ : zH) (L st : List zAV) : Option ρ := match L, st with
  | [.inr (.inr (.inl (8, i0))), .inr (.inr (.inl (4, i1))), .inl x2], [] => f σ i0 i1 x2
  | _, _ => none
def gl_X8_lieDownBy_99 {ρ : Type} (f : zH → Nat → Nat → Int32 → Nat → Int32 → Int32 → Option ρ) (σ : zH) (L st : List zAV) : Option ρ := match L, st with
  | [.inr (.inr (.inl (8, i0))), .inr (.inr (.inl (4, i1))), .inl x2], [.inl xs2, .inl xs1, .inr (.inr (.inl (8, is0)))] => f σ i0 i1 x2 is0 xs1 xs2
  | _, _ => none
theorem glr_X8_lieDownBy_14 {ρ : Type} (f : zH → Nat → Nat → Int32 → Option ρ) (σ : zH) (i0 : Nat) (i1 : Nat) (x2 : Int32)  : gl_X8_lieDownBy_14 f σ [vR 8 i0, vR 4 i1, vI x2] [] = f σ i0 i1 x2 := rfl
theorem glr_X8_lieDownBy_99 {ρ : Type} (f : zH → Nat → Nat → Int32 → Nat → Int32 → Int32 → Option ρ) (σ : zH) (i0 : Nat) (i1 : Nat) (x2 : Int32) (is0 : Nat) (xs1 : Int32) (xs2 : Int32)  : gl_X8_lieDownBy_99 f σ [vR 8 i0, vR 4 i1, vI x2] [vI xs2, vI xs1, vR 8 is0] = f σ i0 i1 x2 is0 xs1 xs2 := rfl
theorem t_X8_lieDownBy_0 {G : Nat → zH → List zAV → List zAV → Option zH} (es : List zEnt) (σ : zH) (i0 : Nat) (i1 : Nat) (y2 : zAV)  : zev cc_X8_lieDownBy G 9 krV (zE 0 (.aload_n 0) 1 :: zEf 1 (.getfield 48) 3 8 1 88 (0, 0, 0) :: zE 4 (.aload_n 0) 1 :: zEf 5 (.getfield 51) 3 8 3 93 (0, 0, 0) :: es) σ [vR 8 i0, vR 4 i1, y2] [] = zev cc_X8_lieDownBy G 9 krV es σ [vR 8 i0, vR 4 i1, y2] [vI (σ.1 8 i0 3), vI (σ.1 8 i0 1)] := rfl
theorem t_X8_lieDownBy_12 {G : Nat → zH → List zAV → List zAV → Option zH} (es : List zEnt) (σ : zH) (i0 : Nat) (i1 : Nat) (y2 : zAV) (w12 : Int32) : zev cc_X8_lieDownBy G 9 krV (zEk 12 (.iconst 0) 1 w12 :: zE 13 (.istore_n 2) 1 :: es) σ [vR 8 i0, vR 4 i1, y2] [] = zev cc_X8_lieDownBy G 9 krV es σ [vR 8 i0, vR 4 i1, vI w12] [] := rfl
theorem t_X8_lieDownBy_14 {G : Nat → zH → List zAV → List zAV → Option zH} (es : List zEnt) (σ : zH) (i0 : Nat) (i1 : Nat) (x2 : Int32)   : zev cc_X8_lieDownBy G 9 krV (zE 14 (.iload_n 2) 1 :: zE 15 (.aload_n 0) 1 :: zEf 16 (.getfield 12) 3 8 0 84 (1, 0, 1) :: zEf 19 (.getfield 74) 3 0 0 31 (0, 0, 0) :: es) σ [vR 8 i0, vR 4 i1, vI x2] [] = zev cc_X8_lieDownBy G 9 krV es σ [vR 8 i0, vR 4 i1, vI x2] [vI (σ.1 0 (i0 + 1) 0), vI x2] := rfl
theorem t_X8_lieDownBy_25 {G : Nat → zH → List zAV → List zAV → Option zH} (es : List zEnt) (σ : zH) (i0 : Nat) (i1 : Nat) (x2 : Int32)   : zev cc_X8_lieDownBy G 9 krV (zE 25 (.aload_n 0) 1 :: zE 26 (.iload_n 2) 1 :: es) σ [vR 8 i0, vR 4 i1, vI x2] [] = zev cc_X8_lieDownBy G 9 krV es σ [vR 8 i0, vR 4 i1, vI x2] [vI x2, vR 8 i0] := rfl
theorem t_X8_lieDownBy_33 {G : Nat → zH → List zAV → List zAV → Option zH} (es : List zEnt) (σ : zH) (i0 : Nat) (i1 : Nat) (x2 : Int32)   : zev cc_X8_lieDownBy G 9 krV (zE 33 (.aload_n 0) 1 :: zE 34 (.iload_n 2) 1 :: es) σ [vR 8 i0, vR 4 i1, vI x2] [] = zev cc_X8_lieDownBy G 9 krV es σ [vR 8 i0, vR 4 i1, vI x2] [vI x2, vR 8 i0] := rfl
theorem t_X8_lieDownBy_41 {G : Nat → zH → List zAV → List zAV → Option zH} (es : List zEnt) (σ : zH) (i0 : Nat) (i1 : Nat) (x2 : Int32)  (w50 : Int32) : zev cc_X8_lieDownBy G 9 krV (zE 41 (.aload_n 0) 1 :: zEf 42 (.getfield 12) 3 8 0 84 (1, 0, 1) :: zE 45 (.iload_n 2) 1 :: zE 46 (.aload_n 0) 1 :: zEf 47 (.getfield 48) 3 8 1 88 (0, 0, 0) :: zEk 50 (.bipush 96) 2 w50 :: es) σ [vR 8 i0, vR 4 i1, vI x2] [] = zev cc_X8_lieDownBy G 9 krV es σ [vR 8 i0, vR 4 i1, vI x2] [vI w50, vI (σ.1 8 i0 1), vI x2, vR 0 (i0 + 1)] := rfl
theorem t_X8_lieDownBy_56 {G : Nat → zH → List zAV → List zAV → Option zH} (es : List zEnt) (σ : zH) (i0 : Nat) (i1 : Nat) (x2 : Int32) (xs0 : Int32)  (w56 : Int32) : zev cc_X8_lieDownBy G 9 krV (zEk 56 (.iconst (-1)) 1 w56 :: es) σ [vR 8 i0, vR 4 i1, vI x2] [vI xs0] = zev cc_X8_lieDownBy G 9 krV es σ [vR 8 i0, vR 4 i1, vI x2] [vI w56, vI xs0] := rfl
theorem t_X8_lieDownBy_63 {G : Nat → zH → List zAV → List zAV → Option zH} (es : List zEnt) (σ : zH) (i0 : Nat) (i1 : Nat) (x2 : Int32)  (w64 : Int32) : zev cc_X8_lieDownBy G 9 krV (zE 63 (.aload_n 1) 1 :: zEk 64 (.iconst 1) 1 w64 :: zE 65 (.aload_n 0) 1 :: zE 66 (.iload_n 2) 1 :: es) σ [vR 8 i0, vR 4 i1, vI x2] [] = zev cc_X8_lieDownBy G 9 krV es σ [vR 8 i0, vR 4 i1, vI x2] [vI x2, vR 8 i0, vI w64, vR 4 i1] := rfl
theorem t_X8_lieDownBy_73 {G : Nat → zH → List zAV → List zAV → Option zH} (es : List zEnt) (σ : zH) (i0 : Nat) (i1 : Nat) (x2 : Int32)   : zev cc_X8_lieDownBy G 9 krV (zE 73 (.aload_n 0) 1 :: zE 74 .dup 1 :: zEf 75 (.getfield 80) 3 8 15 119 (0, 0, 0) :: zE 78 (.aload_n 0) 1 :: zE 79 (.iload_n 2) 1 :: es) σ [vR 8 i0, vR 4 i1, vI x2] [] = zev cc_X8_lieDownBy G 9 krV es σ [vR 8 i0, vR 4 i1, vI x2] [vI x2, vR 8 i0, vI (σ.1 8 i0 15), vR 8 i0] := rfl
theorem t_X8_lieDownBy_86 {G : Nat → zH → List zAV → List zAV → Option zH} (es : List zEnt) (σ : zH) (i0 : Nat) (i1 : Nat) (x2 : Int32) (is0 : Nat) (xs1 : Int32)   : zev cc_X8_lieDownBy G 9 krV (zE 86 (.aload_n 0) 1 :: zEf 87 (.getfield 12) 3 8 0 84 (1, 0, 1) :: zEf 90 (.getfield 99) 3 0 1 38 (1, 12, 0) :: zE 93 (.iload_n 2) 1 :: es) σ [vR 8 i0, vR 4 i1, vI x2] [vI xs1, vR 8 is0] = zev cc_X8_lieDownBy G 9 krV es σ [vR 8 i0, vR 4 i1, vI x2] [vI x2, vR 12 ((i0 + 1) + 0), vI xs1, vR 8 is0] := rfl
theorem t_X8_lieDownBy_98 {G : Nat → zH → List zAV → List zAV → Option zH} (es : List zEnt) (σ : zH) (i0 : Nat) (i1 : Nat) (x2 : Int32) (is0 : Nat) (xs1 : Int32)  (w98 : Int32) : zev cc_X8_lieDownBy G 9 krV (zEk 98 (.iconst 0) 1 w98 :: es) σ [vR 8 i0, vR 4 i1, vI x2] [vI xs1, vR 8 is0] = zev cc_X8_lieDownBy G 9 krV es σ [vR 8 i0, vR 4 i1, vI x2] [vI w98, vI xs1, vR 8 is0] := rfl
theorem t_X8_lieDownBy_99 {G : Nat → zH → List zAV → List zAV → Option zH} (es : List zEnt) (σ : zH) (i0 : Nat) (i1 : Nat) (x2 : Int32) (is0 : Nat) (xs1 : Int32) (xs2 : Int32)   : zev cc_X8_lieDownBy G 9 krV (zE 99 .iadd 1 :: es) σ [vR 8 i0, vR 4 i1, vI x2] [vI xs2, vI xs1, vR 8 is0] = zev cc_X8_lieDownBy G 9 krV es σ [vR 8 i0, vR 4 i1, vI x2] [vI (xs1 + xs2), vR 8 is0] := rfl
theorem t_X8_lieDownBy_103 {G : Nat → zH → List zAV → List zAV → Option zH} (es : List zEnt) (σ : zH) (i0 : Nat) (i1 : Nat) (x2 : Int32)  (w105 : Int32) : zev cc_X8_lieDownBy G 9 krV (zE 103 (.aload_n 0) 1 :: zE 104 (.iload_n 2) 1 :: zEk 105 (.iconst 3) 1 w105 :: zE 106 (.aload_n 0) 1 :: zEf 107 (.getfield 41) 3 8 16 122 (0, 0, 0) :: es) σ [vR 8 i0, vR 4 i1, vI x2] [] = zev cc_X8_lieDownBy G 9 krV es σ [vR 8 i0, vR 4 i1, vI x2] [vI (σ.1 8 i0 16), vI w105, vI x2, vR 8 i0] := rfl
theorem t_X8_lieDownBy_113 {G : Nat → zH → List zAV → List zAV → Option zH} (es : List zEnt) (σ : zH) (i0 : Nat) (i1 : Nat) (x2 : Int32)  (w113 : Int32) : zev cc_X8_lieDownBy G 9 krV (zEk 113 (.iinc 2 1) 3 w113 :: es) σ [vR 8 i0, vR 4 i1, vI x2] [] = zev cc_X8_lieDownBy G 9 krV es σ [vR 8 i0, vR 4 i1, vI (x2 + w113)] [] := rfl
noncomputable def j_X8_lieDownBy_99 (c14 : zH → Nat → Nat → Int32 → Option zH) (σ : zH) (i0 : Nat) (i1 : Nat) (x2 : Int32) (is0 : Nat) (xs1 : Int32) (xs2 : Int32) : Option zH :=
  zlet (uI σ 8 is0 15 (xs1 + xs2)) fun σ1 =>
  (d_X8_lieDown σ1 i0 x2 (3 : Int32) (σ1.1 8 i0 16)).bind fun σ2 =>
  c14 σ2 i0 i1 (x2 + (1 : Int32))
theorem e_X8_lieDownBy_99 (c14 : zH → Nat → Nat → Int32 → Option zH) (σ : zH) (i0 : Nat) (i1 : Nat) (x2 : Int32) (is0 : Nat) (xs1 : Int32) (xs2 : Int32)  : j_X8_lieDownBy_99 c14 σ i0 i1 x2 is0 xs1 xs2 = zin cc_X8_lieDownBy (fun t => if t = 14 then some (gl_X8_lieDownBy_14 c14) else none) 9 krV b_X8_lieDownBy 99 σ [vR 8 i0, vR 4 i1, vI x2] [vI xs2, vI xs1, vR 8 is0] := by
  unfold j_X8_lieDownBy_99
  refine Eq.symm ((zin_b (es := q_X8_lieDownBy_99) rfl).trans ?_)
  refine (t_X8_lieDownBy_99 _ _ _ _ _ _ _ _).trans ?_
  refine x_pf0.trans (plt fun _ => ?_)
  refine (t_X8_lieDownBy_103 _ _ _ _ _ _).trans ?_
  refine (x_callV rfl rfl rfl rfl).trans ((cl_X8_lieDownBy_X8_lieDown _ _ _).trans ((gr_X8_lieDown _ _ _ _ _ _).trans (pbd fun _ => ?_)))
  refine (t_X8_lieDownBy_113 _ _ _ _ _ _).trans ?_
  refine x_goto.trans ?_
  exact (zrun_c rfl).trans (glr_X8_lieDownBy_14 _ _ _ _ _)
theorem s_X8_lieDownBy_99 {X : zX} (hX : zHX X) {c14 : zH → Nat → Nat → Int32 → Option zH} (h14 : ∀ σ L st r, gl_X8_lieDownBy_14 c14 σ L st = some r → zGW X 83 krV 14 σ L st r) : ∀ σ L st r, gl_X8_lieDownBy_99 (j_X8_lieDownBy_99 c14) σ L st = some r → zGW X 83 krV 99 σ L st r := by
  intro σ L st r h
  unfold gl_X8_lieDownBy_99 at h
  split at h
  · exact zin_ok (hy_X8_lieDownBy hX) bk_X8_lieDownBy (fun t f hf => by
    by_cases e14 : t = 14
    · rw [if_pos e14] at hf; subst e14; cases hf; exact h14
    rw [if_neg e14] at hf
    cases hf) ((e_X8_lieDownBy_99 _ _ _ _ _ _ _ _).symm.trans h)
  · cases h
noncomputable def k_X8_lieDownBy_14  : Nat → zH → Nat → Nat → Int32 → Option zH
  | 0, _, _, _, _ => none
  | n + 1, σ, i0, i1, x2 =>
    if x2 < (σ.1 0 (i0 + 1) 0) then
      (d_X8_isAsleep σ i0 x2).bind fun p1 =>
      if p1.2 = 0 then
        (d_X8_bedIsTaken p1.1 i0 x2).bind fun p2 =>
        if p2.2 = 0 then
          (d_X0_firstDuty p2.1 (i0 + 1) x2 ((p2.1.1 8 i0 1) - (p2.1.1 8 i0 1) / (96 : Int32) * (96 : Int32))).bind fun p3 =>
          if p3.2 = (-1 : Int32) then
            (d_X4_holds p3.1 i1 (1 : Int32) i0 x2).bind fun p4 =>
            if p4.2 = 0 then
              (k_X8_lieDownBy_14 n) p4.1 i0 i1 (x2 + (1 : Int32))
            else
              (d_X8_bedIsWarm p4.1 i0 x2).bind fun p5 =>
              if p5.2 = 0 then
                (j_X8_lieDownBy_99 (k_X8_lieDownBy_14 n)) p5.1 i0 i1 x2 i0 (p4.1.1 8 i0 15) (0 : Int32)
              else
                ix x2 12 fun j6 =>
                (j_X8_lieDownBy_99 (k_X8_lieDownBy_14 n)) p5.1 i0 i1 x2 i0 (p4.1.1 8 i0 15) (p5.1.1 12 ((i0 + 1) + 0) j6)
          else
            (k_X8_lieDownBy_14 n) p3.1 i0 i1 (x2 + (1 : Int32))
        else
          (k_X8_lieDownBy_14 n) p2.1 i0 i1 (x2 + (1 : Int32))
      else
        (k_X8_lieDownBy_14 n) p1.1 i0 i1 (x2 + (1 : Int32))
    else
      some σ
theorem e_X8_lieDownBy_14  (n : Nat) (σ : zH) (i0 : Nat) (i1 : Nat) (x2 : Int32)  : k_X8_lieDownBy_14 (n + 1) σ i0 i1 x2 = zin cc_X8_lieDownBy (fun t => if t = 14 then some (gl_X8_lieDownBy_14 (k_X8_lieDownBy_14 n)) else if t = 99 then some (gl_X8_lieDownBy_99 (j_X8_lieDownBy_99 (k_X8_lieDownBy_14 n))) else none) 9 krV b_X8_lieDownBy 14 σ [vR 8 i0, vR 4 i1, vI x2] [] := by
  rw [k_X8_lieDownBy_14]
  refine Eq.symm ((zin_b (es := q_X8_lieDownBy_14) rfl).trans ?_)
  refine (t_X8_lieDownBy_14 _ _ _ _ _).trans ?_
  refine x_icmp.trans (pif_ge ?_ ?_)
  · refine (zrun_b (es := q_X8_lieDownBy_119) rfl rfl).trans ?_
    exact x_vret
  · refine (t_X8_lieDownBy_25 _ _ _ _ _).trans ?_
    refine (x_callV rfl rfl rfl rfl).trans ((cl_X8_lieDownBy_X8_isAsleep _ _ _).trans ((gr_X8_isAsleep _ _ _ _).trans (pbd fun _ => ?_)))
    refine x_if.trans (pif_ne ?_ ?_)
    · refine (zrun_b (es := q_X8_lieDownBy_113) rfl rfl).trans ?_
      refine (t_X8_lieDownBy_113 _ _ _ _ _ _).trans ?_
      refine x_goto.trans ?_
      exact (zrun_c rfl).trans (glr_X8_lieDownBy_14 _ _ _ _ _)
    · refine (t_X8_lieDownBy_33 _ _ _ _ _).trans ?_
      refine (x_callV rfl rfl rfl rfl).trans ((cl_X8_lieDownBy_X8_bedIsTaken _ _ _).trans ((gr_X8_bedIsTaken _ _ _ _).trans (pbd fun _ => ?_)))
      refine x_if.trans (pif_ne ?_ ?_)
      · refine (zrun_b (es := q_X8_lieDownBy_113) rfl rfl).trans ?_
        refine (t_X8_lieDownBy_113 _ _ _ _ _ _).trans ?_
        refine x_goto.trans ?_
        exact (zrun_c rfl).trans (glr_X8_lieDownBy_14 _ _ _ _ _)
      · refine (t_X8_lieDownBy_41 _ _ _ _ _ _).trans ?_
        refine (x_irem.trans (nz_l (by decide +kernel))).trans ?_
        refine (x_callV rfl rfl rfl rfl).trans ((cl_X8_lieDownBy_X0_firstDuty _ _ _).trans ((gr_X0_firstDuty _ _ _ _ _).trans (pbd fun _ => ?_)))
        refine (t_X8_lieDownBy_56 _ _ _ _ _ _ _).trans ?_
        refine x_icmp.trans (pif_eq ?_ ?_)
        · refine (zrun_b (es := q_X8_lieDownBy_63) rfl rfl).trans ?_
          refine (t_X8_lieDownBy_63 _ _ _ _ _ _).trans ?_
          refine (x_callV rfl rfl rfl rfl).trans ((cl_X8_lieDownBy_X4_holds _ _ _).trans ((gr_X4_holds _ _ _ _ _ _).trans (pbd fun _ => ?_)))
          refine x_if.trans (pif_eq ?_ ?_)
          · refine (zrun_b (es := q_X8_lieDownBy_113) rfl rfl).trans ?_
            refine (t_X8_lieDownBy_113 _ _ _ _ _ _).trans ?_
            refine x_goto.trans ?_
            exact (zrun_c rfl).trans (glr_X8_lieDownBy_14 _ _ _ _ _)
          · refine (t_X8_lieDownBy_73 _ _ _ _ _).trans ?_
            refine (x_callV rfl rfl rfl rfl).trans ((cl_X8_lieDownBy_X8_bedIsWarm _ _ _).trans ((gr_X8_bedIsWarm _ _ _ _).trans (pbd fun _ => ?_)))
            refine x_if.trans (pif_eq ?_ ?_)
            · refine (zrun_b (es := q_X8_lieDownBy_98) rfl rfl).trans ?_
              refine (t_X8_lieDownBy_98 _ _ _ _ _ _ _ _).trans ?_
              refine x_cut.trans ?_
              exact (zrun_c rfl).trans (glr_X8_lieDownBy_99 _ _ _ _ _ _ _ _)
            · refine (t_X8_lieDownBy_86 _ _ _ _ _ _ _).trans ?_
              refine (x_iald (N := 12) rfl rfl).trans (pix fun _ => ?_)
              refine x_goto.trans ?_
              exact (zrun_c rfl).trans (glr_X8_lieDownBy_99 _ _ _ _ _ _ _ _)
        · refine x_goto.trans ?_
          refine (zrun_b (es := q_X8_lieDownBy_113) rfl rfl).trans ?_
          refine (t_X8_lieDownBy_113 _ _ _ _ _ _).trans ?_
          refine x_goto.trans ?_
          exact (zrun_c rfl).trans (glr_X8_lieDownBy_14 _ _ _ _ _)
theorem s_X8_lieDownBy_14 {X : zX} (hX : zHX X)   : ∀ n σ L st r, gl_X8_lieDownBy_14 (k_X8_lieDownBy_14 n) σ L st = some r → zGW X 83 krV 14 σ L st r := by
  intro n
  induction n with
  | zero =>
    intro σ L st r h
    unfold gl_X8_lieDownBy_14 at h
    split at h <;> cases h
  | succ n ih =>
    intro σ L st r h
    unfold gl_X8_lieDownBy_14 at h
    split at h
    · exact zin_ok (hy_X8_lieDownBy hX) bk_X8_lieDownBy (fun t f hf => by
      by_cases e14 : t = 14
      · rw [if_pos e14] at hf; subst e14; cases hf; exact ih
      rw [if_neg e14] at hf
      by_cases e99 : t = 99
      · rw [if_pos e99] at hf; subst e99; cases hf; exact (s_X8_lieDownBy_99 hX ih)
      rw [if_neg e99] at hf
      cases hf) ((e_X8_lieDownBy_14 _ _ _ _ _).symm.trans h)
    · cases h
noncomputable def d_X8_lieDownBy (σ : zH) (ia0 : Nat) (ia1 : Nat) : Option zH :=
  if (σ.1 8 ia0 1) < (σ.1 8 ia0 3) then
    some σ
  else
    (k_X8_lieDownBy_14 zN) σ ia0 ia1 (0 : Int32)
theorem e_X8_lieDownBy (σ : zH) (ia0 : Nat) (ia1 : Nat) : d_X8_lieDownBy σ ia0 ia1 = zin cc_X8_lieDownBy (fun t => if t = 14 then some (gl_X8_lieDownBy_14 (k_X8_lieDownBy_14 zN)) else none) 9 krV b_X8_lieDownBy 0 σ [vR 8 ia0, vR 4 ia1, vU] [] := by
  unfold d_X8_lieDownBy
  refine Eq.symm ((zin_b (es := q_X8_lieDownBy_0) rfl).trans ?_)
  refine (t_X8_lieDownBy_0 _ _ _ _ _).trans ?_
  refine x_icmp.trans (pif_ge ?_ ?_)
  · refine (zrun_b (es := q_X8_lieDownBy_12) rfl rfl).trans ?_
    refine (t_X8_lieDownBy_12 _ _ _ _ _ _).trans ?_
    refine x_cut.trans ?_
    exact (zrun_c rfl).trans (glr_X8_lieDownBy_14 _ _ _ _ _)
  · exact x_vret
noncomputable def g_X8_lieDownBy {ρ : Type} (σ : zH) (av : List zAV) (q : zH → zAV → Option ρ) : Option ρ := match av with
  | [.inr (.inr (.inl (8, ia0))), .inr (.inr (.inl (4, ia1)))] => (d_X8_lieDownBy σ ia0 ia1).bind fun σ => q σ vU
  | _ => none
theorem gr_X8_lieDownBy {ρ : Type} (σ : zH) (ia0 : Nat) (ia1 : Nat) (q : zH → zAV → Option ρ) : g_X8_lieDownBy σ [vR 8 ia0, vR 4 ia1] q = (d_X8_lieDownBy σ ia0 ia1).bind fun σ => q σ vU := rfl
theorem c_X8_lieDownBy {ρ : Type} {X : zX} (hX : zHX X) {σ : zH} {av : List zAV} {q : zH → zAV → Option ρ} {r : ρ} (h : g_X8_lieDownBy σ av q = some r) (hv : ∀ a ∈ av, zval X a) : zcon X 83 σ av q r := by
  unfold g_X8_lieDownBy at h
  split at h
  · exact zcon_V (n := 83) (ml := 3) (rc := 9) (st := 0) (kd := 8) (np := 1) (by decide +kernel) rfl ⟨_, _, rfl, rfl⟩ (Nat.le_of_ble_eq_true rfl) hv h (fun y h1 => (zin_ok (hy_X8_lieDownBy hX) bk_X8_lieDownBy (fun t f hf => by
      by_cases e14 : t = 14
      · rw [if_pos e14] at hf; subst e14; cases hf; exact ((fun σ L st r h => s_X8_lieDownBy_14 hX  zN σ L st r h))
      rw [if_neg e14] at hf
      cases hf) ((e_X8_lieDownBy _ _ _).symm.trans h1)))
  · cases h
