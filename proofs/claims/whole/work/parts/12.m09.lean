/-! SleepWavesModel.lieDown(I)V -/
def q_X11_lieDown_0 : List zEnt := zEk 0 (.iconst 0) 1 0 :: zE 1 (.istore_n 2) 1 :: [zE 2 .nop 0]
def q_X11_lieDown_76 : List zEnt := zEa 76 (.goto 4) 3 80 :: []
def q_X11_lieDown_75 : List zEnt := zE 75 .iaload 1 :: q_X11_lieDown_76
def q_X11_lieDown_70 : List zEnt := zE 70 (.aload_n 0) 1 :: zEf 71 (.getfield 13) 3 11 2 150 (2, 43, 0) :: zE 74 (.iload_n 2) 1 :: q_X11_lieDown_75
def q_X11_lieDown_67 : List zEnt := zEa 67 (.ifCond .eq 12) 3 79 :: q_X11_lieDown_70
def q_X11_lieDown_64 : List zEnt := zEc 64 (.invokevirtual 390) 3 170 2 159 0 :: q_X11_lieDown_67
def q_X11_lieDown_62 : List zEnt := zE 62 (.aload_n 0) 1 :: zE 63 (.iload_n 2) 1 :: q_X11_lieDown_64
def q_X11_lieDown_61 : List zEnt := zE 61 .iaload 1 :: q_X11_lieDown_62
def q_X11_lieDown_54 : List zEnt := zE 54 (.aload_n 0) 1 :: zEf 55 (.getfield 7) 3 11 1 149 (2, 42, 0) :: zEk 58 (.bipush 7) 2 7 :: zE 60 .dup2 1 :: q_X11_lieDown_61
def q_X11_lieDown_51 : List zEnt := zEa 51 (.ifCond .eq 42) 3 93 :: q_X11_lieDown_54
def q_X11_lieDown_48 : List zEnt := zEc 48 (.invokevirtual 386) 3 168 4 152 0 :: q_X11_lieDown_51
def q_X11_lieDown_44 : List zEnt := zE 44 (.aload_n 0) 1 :: zE 45 (.iload_n 1) 1 :: zEk 46 (.iconst 0) 1 0 :: zE 47 (.iload_n 2) 1 :: q_X11_lieDown_48
def q_X11_lieDown_41 : List zEnt := zEa 41 (.ifCond .eq 52) 3 93 :: q_X11_lieDown_44
def q_X11_lieDown_38 : List zEnt := zEc 38 (.invokevirtual 383) 3 169 2 151 0 :: q_X11_lieDown_41
def q_X11_lieDown_36 : List zEnt := zE 36 (.aload_n 0) 1 :: zE 37 (.iload_n 2) 1 :: q_X11_lieDown_38
def q_X11_lieDown_33 : List zEnt := zEa 33 (.ifCond .ne 60) 3 93 :: q_X11_lieDown_36
def q_X11_lieDown_30 : List zEnt := zEc 30 (.invokevirtual 380) 3 174 1 150 0 :: q_X11_lieDown_33
def q_X11_lieDown_29 : List zEnt := zE 29 (.aload_n 0) 1 :: q_X11_lieDown_30
def q_X11_lieDown_26 : List zEnt := zEa 26 (.ifCond .ne 67) 3 93 :: q_X11_lieDown_29
def q_X11_lieDown_23 : List zEnt := zEc 23 (.invokevirtual 376) 3 130 2 149 0 :: q_X11_lieDown_26
def q_X11_lieDown_21 : List zEnt := zE 21 (.aload_n 0) 1 :: zE 22 (.iload_n 2) 1 :: q_X11_lieDown_23
def q_X11_lieDown_18 : List zEnt := zEa 18 (.ifCond .ne 75) 3 93 :: q_X11_lieDown_21
def q_X11_lieDown_17 : List zEnt := zE 17 .iaload 1 :: q_X11_lieDown_18
def q_X11_lieDown_12 : List zEnt := zE 12 (.aload_n 0) 1 :: zEf 13 (.getfield 70) 3 11 21 169 (2, 62, 0) :: zE 16 (.iload_n 2) 1 :: q_X11_lieDown_17
def q_X11_lieDown_9 : List zEnt := zEa 9 (.if_icmp .ge 90) 3 99 :: q_X11_lieDown_12
def q_X11_lieDown_8 : List zEnt := zE 8 .iaload 1 :: q_X11_lieDown_9
def q_X11_lieDown_2 : List zEnt := zE 2 (.iload_n 2) 1 :: zE 3 (.aload_n 0) 1 :: zEf 4 (.getfield 7) 3 11 1 149 (2, 42, 0) :: zEk 7 (.iconst 0) 1 0 :: q_X11_lieDown_8
def q_X11_lieDown_79 : List zEnt := zEk 79 (.iconst 0) 1 0 :: [zE 80 .nop 0]
def q_X11_lieDown_96 : List zEnt := zEa 96 (.goto (-94)) 3 2 :: []
def q_X11_lieDown_93 : List zEnt := zEk 93 (.iinc 2 1) 3 1 :: q_X11_lieDown_96
def q_X11_lieDown_90 : List zEnt := zEc 90 (.invokevirtual 396) 3 171 5 161 1 :: q_X11_lieDown_93
def q_X11_lieDown_87 : List zEnt := zEc 87 (.invokevirtual 393) 3 172 1 160 0 :: q_X11_lieDown_90
def q_X11_lieDown_82 : List zEnt := zE 82 (.aload_n 0) 1 :: zE 83 (.iload_n 2) 1 :: zEk 84 (.iconst 1) 1 1 :: zEk 85 (.iconst 3) 1 3 :: zE 86 (.aload_n 0) 1 :: q_X11_lieDown_87
def q_X11_lieDown_81 : List zEnt := zE 81 .iastore 1 :: q_X11_lieDown_82
def q_X11_lieDown_80 : List zEnt := zE 80 .iadd 1 :: q_X11_lieDown_81
def q_X11_lieDown_99 : List zEnt := zE 99 .return_ 1 :: []
def b_X11_lieDown : List (Nat × List zEnt) := [(0, q_X11_lieDown_0), (2, q_X11_lieDown_2), (79, q_X11_lieDown_79), (80, q_X11_lieDown_80), (93, q_X11_lieDown_93), (99, q_X11_lieDown_99)]
theorem bk_X11_lieDown : zchB 177 b_X11_lieDown = true := by decide +kernel
noncomputable def cc_X11_lieDown {ρ : Type} : Nat → zH → List zAV → (zH → zAV → Option ρ) → Option ρ := fun n σ av q => if n = 130 then g_X11_hasDuty σ av q else if n = 174 then g_X11_isFeast σ av q else if n = 169 then g_X11_isFree σ av q else if n = 168 then g_X11_some σ av q else if n = 170 then g_X11_isWarm σ av q else if n = 172 then g_X11_bellNow σ av q else if n = 171 then g_X11_changes σ av q else none
theorem cs_X11_lieDown {ρ : Type} {X : zX} (hX : zHX X) : zCS X (cc_X11_lieDown (ρ := ρ)) := by
  intro n σ av q r h hv
  unfold cc_X11_lieDown at h
  by_cases e_X11_hasDuty : n = 130
  · rw [if_pos e_X11_hasDuty] at h
    subst e_X11_hasDuty
    exact c_X11_hasDuty hX h hv
  rw [if_neg e_X11_hasDuty] at h
  by_cases e_X11_isFeast : n = 174
  · rw [if_pos e_X11_isFeast] at h
    subst e_X11_isFeast
    exact c_X11_isFeast hX h hv
  rw [if_neg e_X11_isFeast] at h
  by_cases e_X11_isFree : n = 169
  · rw [if_pos e_X11_isFree] at h
    subst e_X11_isFree
    exact c_X11_isFree hX h hv
  rw [if_neg e_X11_isFree] at h
  by_cases e_X11_some : n = 168
  · rw [if_pos e_X11_some] at h
    subst e_X11_some
    exact c_X11_some hX h hv
  rw [if_neg e_X11_some] at h
  by_cases e_X11_isWarm : n = 170
  · rw [if_pos e_X11_isWarm] at h
    subst e_X11_isWarm
    exact c_X11_isWarm hX h hv
  rw [if_neg e_X11_isWarm] at h
  by_cases e_X11_bellNow : n = 172
  · rw [if_pos e_X11_bellNow] at h
    subst e_X11_bellNow
    exact c_X11_bellNow hX h hv
  rw [if_neg e_X11_bellNow] at h
  by_cases e_X11_changes : n = 171
  · rw [if_pos e_X11_changes] at h
    subst e_X11_changes
    exact c_X11_changes hX h hv
  rw [if_neg e_X11_changes] at h
  cases h
theorem cl_X11_lieDown_X11_hasDuty {ρ : Type} (σ : zH) (av : List zAV) (q : zH → zAV → Option ρ) : cc_X11_lieDown 130 σ av q = g_X11_hasDuty σ av q := rfl
theorem cl_X11_lieDown_X11_isFeast {ρ : Type} (σ : zH) (av : List zAV) (q : zH → zAV → Option ρ) : cc_X11_lieDown 174 σ av q = g_X11_isFeast σ av q := rfl
theorem cl_X11_lieDown_X11_isFree {ρ : Type} (σ : zH) (av : List zAV) (q : zH → zAV → Option ρ) : cc_X11_lieDown 169 σ av q = g_X11_isFree σ av q := rfl
theorem cl_X11_lieDown_X11_some {ρ : Type} (σ : zH) (av : List zAV) (q : zH → zAV → Option ρ) : cc_X11_lieDown 168 σ av q = g_X11_some σ av q := rfl
theorem cl_X11_lieDown_X11_isWarm {ρ : Type} (σ : zH) (av : List zAV) (q : zH → zAV → Option ρ) : cc_X11_lieDown 170 σ av q = g_X11_isWarm σ av q := rfl
theorem cl_X11_lieDown_X11_bellNow {ρ : Type} (σ : zH) (av : List zAV) (q : zH → zAV → Option ρ) : cc_X11_lieDown 172 σ av q = g_X11_bellNow σ av q := rfl
theorem cl_X11_lieDown_X11_changes {ρ : Type} (σ : zH) (av : List zAV) (q : zH → zAV → Option ρ) : cc_X11_lieDown 171 σ av q = g_X11_changes σ av q := rfl
theorem hy_X11_lieDown {ρ : Type} {X : zX} (hX : zHX X) : zHY X 177 (cc_X11_lieDown (ρ := ρ)) := zHX.hY hX (cs_X11_lieDown hX) (zmok_all 177 (by decide))
def gl_X11_lieDown_2 {ρ : Type} (f : zH → Int32 → Int32 → Option ρ) (σ : zH) (L st : List zAV) : Option ρ := match L, st with
  | [.inr (.inr (.inl (11, 0))), .inl x1, .inl x2], [] => f σ x1 x2
  | _, _ => none
def gl_X11_lieDown_80 {ρ : Type} (f : zH → Int32 → Int32 → Int32 → Int32 → Int32 → Option ρ) (σ : zH) (L st : List zAV) : Option ρ := match L, st with
  | [.inr (.inr (.inl (11, 0))), .inl x1, .inl x2], [.inl xs3, .inl xs2, .inl xs1, .inr (.inr (.inl (42, 0)))] => f σ x1 x2 xs1 xs2 xs3
  | _, _ => none
theorem glr_X11_lieDown_2 {ρ : Type} (f : zH → Int32 → Int32 → Option ρ) (σ : zH) (x1 : Int32) (x2 : Int32)  : gl_X11_lieDown_2 f σ [vR 11 0, vI x1, vI x2] [] = f σ x1 x2 := rfl
theorem glr_X11_lieDown_80 {ρ : Type} (f : zH → Int32 → Int32 → Int32 → Int32 → Int32 → Option ρ) (σ : zH) (x1 : Int32) (x2 : Int32) (xs1 : Int32) (xs2 : Int32) (xs3 : Int32)  : gl_X11_lieDown_80 f σ [vR 11 0, vI x1, vI x2] [vI xs3, vI xs2, vI xs1, vR 42 0] = f σ x1 x2 xs1 xs2 xs3 := rfl
theorem t_X11_lieDown_0 {G : Nat → zH → List zAV → List zAV → Option zH} (es : List zEnt) (σ : zH) (x1 : Int32) (y2 : zAV) (w0 : Int32) : zev cc_X11_lieDown G 9 krV (zEk 0 (.iconst 0) 1 w0 :: zE 1 (.istore_n 2) 1 :: es) σ [vR 11 0, vI x1, y2] [] = zev cc_X11_lieDown G 9 krV es σ [vR 11 0, vI x1, vI w0] [] := rfl
theorem t_X11_lieDown_2 {G : Nat → zH → List zAV → List zAV → Option zH} (es : List zEnt) (σ : zH) (x1 : Int32) (x2 : Int32)  (w7 : Int32) : zev cc_X11_lieDown G 9 krV (zE 2 (.iload_n 2) 1 :: zE 3 (.aload_n 0) 1 :: zEf 4 (.getfield 7) 3 11 1 149 (2, 42, 0) :: zEk 7 (.iconst 0) 1 w7 :: es) σ [vR 11 0, vI x1, vI x2] [] = zev cc_X11_lieDown G 9 krV es σ [vR 11 0, vI x1, vI x2] [vI w7, vR 42 0, vI x2] := rfl
theorem t_X11_lieDown_12 {G : Nat → zH → List zAV → List zAV → Option zH} (es : List zEnt) (σ : zH) (x1 : Int32) (x2 : Int32)   : zev cc_X11_lieDown G 9 krV (zE 12 (.aload_n 0) 1 :: zEf 13 (.getfield 70) 3 11 21 169 (2, 62, 0) :: zE 16 (.iload_n 2) 1 :: es) σ [vR 11 0, vI x1, vI x2] [] = zev cc_X11_lieDown G 9 krV es σ [vR 11 0, vI x1, vI x2] [vI x2, vR 62 0] := rfl
theorem t_X11_lieDown_21 {G : Nat → zH → List zAV → List zAV → Option zH} (es : List zEnt) (σ : zH) (x1 : Int32) (x2 : Int32)   : zev cc_X11_lieDown G 9 krV (zE 21 (.aload_n 0) 1 :: zE 22 (.iload_n 2) 1 :: es) σ [vR 11 0, vI x1, vI x2] [] = zev cc_X11_lieDown G 9 krV es σ [vR 11 0, vI x1, vI x2] [vI x2, vR 11 0] := rfl
theorem t_X11_lieDown_29 {G : Nat → zH → List zAV → List zAV → Option zH} (es : List zEnt) (σ : zH) (x1 : Int32) (x2 : Int32)   : zev cc_X11_lieDown G 9 krV (zE 29 (.aload_n 0) 1 :: es) σ [vR 11 0, vI x1, vI x2] [] = zev cc_X11_lieDown G 9 krV es σ [vR 11 0, vI x1, vI x2] [vR 11 0] := rfl
theorem t_X11_lieDown_36 {G : Nat → zH → List zAV → List zAV → Option zH} (es : List zEnt) (σ : zH) (x1 : Int32) (x2 : Int32)   : zev cc_X11_lieDown G 9 krV (zE 36 (.aload_n 0) 1 :: zE 37 (.iload_n 2) 1 :: es) σ [vR 11 0, vI x1, vI x2] [] = zev cc_X11_lieDown G 9 krV es σ [vR 11 0, vI x1, vI x2] [vI x2, vR 11 0] := rfl
theorem t_X11_lieDown_44 {G : Nat → zH → List zAV → List zAV → Option zH} (es : List zEnt) (σ : zH) (x1 : Int32) (x2 : Int32)  (w46 : Int32) : zev cc_X11_lieDown G 9 krV (zE 44 (.aload_n 0) 1 :: zE 45 (.iload_n 1) 1 :: zEk 46 (.iconst 0) 1 w46 :: zE 47 (.iload_n 2) 1 :: es) σ [vR 11 0, vI x1, vI x2] [] = zev cc_X11_lieDown G 9 krV es σ [vR 11 0, vI x1, vI x2] [vI x2, vI w46, vI x1, vR 11 0] := rfl
theorem t_X11_lieDown_54 {G : Nat → zH → List zAV → List zAV → Option zH} (es : List zEnt) (σ : zH) (x1 : Int32) (x2 : Int32)  (w58 : Int32) : zev cc_X11_lieDown G 9 krV (zE 54 (.aload_n 0) 1 :: zEf 55 (.getfield 7) 3 11 1 149 (2, 42, 0) :: zEk 58 (.bipush 7) 2 w58 :: zE 60 .dup2 1 :: es) σ [vR 11 0, vI x1, vI x2] [] = zev cc_X11_lieDown G 9 krV es σ [vR 11 0, vI x1, vI x2] [vI w58, vR 42 0, vI w58, vR 42 0] := rfl
theorem t_X11_lieDown_62 {G : Nat → zH → List zAV → List zAV → Option zH} (es : List zEnt) (σ : zH) (x1 : Int32) (x2 : Int32) (xs1 : Int32) (xs2 : Int32)   : zev cc_X11_lieDown G 9 krV (zE 62 (.aload_n 0) 1 :: zE 63 (.iload_n 2) 1 :: es) σ [vR 11 0, vI x1, vI x2] [vI xs2, vI xs1, vR 42 0] = zev cc_X11_lieDown G 9 krV es σ [vR 11 0, vI x1, vI x2] [vI x2, vR 11 0, vI xs2, vI xs1, vR 42 0] := rfl
theorem t_X11_lieDown_70 {G : Nat → zH → List zAV → List zAV → Option zH} (es : List zEnt) (σ : zH) (x1 : Int32) (x2 : Int32) (xs1 : Int32) (xs2 : Int32)   : zev cc_X11_lieDown G 9 krV (zE 70 (.aload_n 0) 1 :: zEf 71 (.getfield 13) 3 11 2 150 (2, 43, 0) :: zE 74 (.iload_n 2) 1 :: es) σ [vR 11 0, vI x1, vI x2] [vI xs2, vI xs1, vR 42 0] = zev cc_X11_lieDown G 9 krV es σ [vR 11 0, vI x1, vI x2] [vI x2, vR 43 0, vI xs2, vI xs1, vR 42 0] := rfl
theorem t_X11_lieDown_79 {G : Nat → zH → List zAV → List zAV → Option zH} (es : List zEnt) (σ : zH) (x1 : Int32) (x2 : Int32) (xs1 : Int32) (xs2 : Int32)  (w79 : Int32) : zev cc_X11_lieDown G 9 krV (zEk 79 (.iconst 0) 1 w79 :: es) σ [vR 11 0, vI x1, vI x2] [vI xs2, vI xs1, vR 42 0] = zev cc_X11_lieDown G 9 krV es σ [vR 11 0, vI x1, vI x2] [vI w79, vI xs2, vI xs1, vR 42 0] := rfl
theorem t_X11_lieDown_80 {G : Nat → zH → List zAV → List zAV → Option zH} (es : List zEnt) (σ : zH) (x1 : Int32) (x2 : Int32) (xs1 : Int32) (xs2 : Int32) (xs3 : Int32)   : zev cc_X11_lieDown G 9 krV (zE 80 .iadd 1 :: es) σ [vR 11 0, vI x1, vI x2] [vI xs3, vI xs2, vI xs1, vR 42 0] = zev cc_X11_lieDown G 9 krV es σ [vR 11 0, vI x1, vI x2] [vI (xs2 + xs3), vI xs1, vR 42 0] := rfl
theorem t_X11_lieDown_82 {G : Nat → zH → List zAV → List zAV → Option zH} (es : List zEnt) (σ : zH) (x1 : Int32) (x2 : Int32)  (w84 : Int32) (w85 : Int32) : zev cc_X11_lieDown G 9 krV (zE 82 (.aload_n 0) 1 :: zE 83 (.iload_n 2) 1 :: zEk 84 (.iconst 1) 1 w84 :: zEk 85 (.iconst 3) 1 w85 :: zE 86 (.aload_n 0) 1 :: es) σ [vR 11 0, vI x1, vI x2] [] = zev cc_X11_lieDown G 9 krV es σ [vR 11 0, vI x1, vI x2] [vR 11 0, vI w85, vI w84, vI x2, vR 11 0] := rfl
theorem t_X11_lieDown_93 {G : Nat → zH → List zAV → List zAV → Option zH} (es : List zEnt) (σ : zH) (x1 : Int32) (x2 : Int32)  (w93 : Int32) : zev cc_X11_lieDown G 9 krV (zEk 93 (.iinc 2 1) 3 w93 :: es) σ [vR 11 0, vI x1, vI x2] [] = zev cc_X11_lieDown G 9 krV es σ [vR 11 0, vI x1, vI (x2 + w93)] [] := rfl
noncomputable def j_X11_lieDown_80 (c2 : zH → Int32 → Int32 → Option zH) (σ : zH) (x1 : Int32) (x2 : Int32) (xs1 : Int32) (xs2 : Int32) (xs3 : Int32) : Option zH :=
  ix xs1 11 fun j4 =>
  zlet (uI σ 42 0 j4 (xs2 + xs3)) fun σ1 =>
  (d_X11_bellNow σ1).bind fun p2 =>
  (d_X11_changes p2.1 x2 (1 : Int32) (3 : Int32) p2.2).bind fun σ3 =>
  c2 σ3 x1 (x2 + (1 : Int32))
theorem e_X11_lieDown_80 (c2 : zH → Int32 → Int32 → Option zH) (σ : zH) (x1 : Int32) (x2 : Int32) (xs1 : Int32) (xs2 : Int32) (xs3 : Int32)  : j_X11_lieDown_80 c2 σ x1 x2 xs1 xs2 xs3 = zin cc_X11_lieDown (fun t => if t = 2 then some (gl_X11_lieDown_2 c2) else none) 9 krV b_X11_lieDown 80 σ [vR 11 0, vI x1, vI x2] [vI xs3, vI xs2, vI xs1, vR 42 0] := by
  unfold j_X11_lieDown_80
  refine Eq.symm ((zin_b (es := q_X11_lieDown_80) rfl).trans ?_)
  refine (t_X11_lieDown_80 _ _ _ _ _ _ _).trans ?_
  refine (x_iast (N := 11) rfl rfl).trans (pix fun _ => plt fun _ => ?_)
  refine (t_X11_lieDown_82 _ _ _ _ _ _).trans ?_
  refine (x_callV rfl rfl rfl rfl).trans ((cl_X11_lieDown_X11_bellNow _ _ _).trans ((gr_X11_bellNow _ _).trans (pbd fun _ => ?_)))
  refine (x_callV rfl rfl rfl rfl).trans ((cl_X11_lieDown_X11_changes _ _ _).trans ((gr_X11_changes _ _ _ _ _ _).trans (pbd fun _ => ?_)))
  refine (t_X11_lieDown_93 _ _ _ _ _).trans ?_
  refine x_goto.trans ?_
  exact (zrun_c rfl).trans (glr_X11_lieDown_2 _ _ _ _)
theorem s_X11_lieDown_80 {X : zX} (hX : zHX X) {c2 : zH → Int32 → Int32 → Option zH} (h2 : ∀ σ L st r, gl_X11_lieDown_2 c2 σ L st = some r → zGW X 177 krV 2 σ L st r) : ∀ σ L st r, gl_X11_lieDown_80 (j_X11_lieDown_80 c2) σ L st = some r → zGW X 177 krV 80 σ L st r := by
  intro σ L st r h
  unfold gl_X11_lieDown_80 at h
  split at h
  · exact zin_ok (hy_X11_lieDown hX) bk_X11_lieDown (fun t f hf => by
    by_cases e2 : t = 2
    · rw [if_pos e2] at hf; subst e2; cases hf; exact h2
    rw [if_neg e2] at hf
    cases hf) ((e_X11_lieDown_80 _ _ _ _ _ _ _).symm.trans h)
  · cases h
noncomputable def k_X11_lieDown_2  : Nat → zH → Int32 → Int32 → Option zH
  | 0, _, _, _ => none
  | n + 1, σ, x1, x2 =>
    if x2 < (σ.1 42 0 0) then
      ix x2 12 fun j1 =>
      if (σ.1 62 0 j1) = 0 then
        (d_X11_hasDuty σ x2).bind fun p2 =>
        if p2.2 = 0 then
          (d_X11_isFeast p2.1).bind fun p3 =>
          if p3.2 = 0 then
            (d_X11_isFree p3.1 x2).bind fun p4 =>
            if p4.2 = 0 then
              (k_X11_lieDown_2 n) p4.1 x1 (x2 + (1 : Int32))
            else
              (d_X11_some p4.1 x1 (0 : Int32) x2).bind fun p5 =>
              if p5.2 = 0 then
                (k_X11_lieDown_2 n) p5.1 x1 (x2 + (1 : Int32))
              else
                (d_X11_isWarm p5.1 x2).bind fun p6 =>
                if p6.2 = 0 then
                  (j_X11_lieDown_80 (k_X11_lieDown_2 n)) p6.1 x1 x2 (7 : Int32) (p5.1.1 42 0 7) (0 : Int32)
                else
                  ix x2 12 fun j7 =>
                  (j_X11_lieDown_80 (k_X11_lieDown_2 n)) p6.1 x1 x2 (7 : Int32) (p5.1.1 42 0 7) (p6.1.1 43 0 j7)
          else
            (k_X11_lieDown_2 n) p3.1 x1 (x2 + (1 : Int32))
        else
          (k_X11_lieDown_2 n) p2.1 x1 (x2 + (1 : Int32))
      else
        (k_X11_lieDown_2 n) σ x1 (x2 + (1 : Int32))
    else
      some σ
theorem e_X11_lieDown_2  (n : Nat) (σ : zH) (x1 : Int32) (x2 : Int32)  : k_X11_lieDown_2 (n + 1) σ x1 x2 = zin cc_X11_lieDown (fun t => if t = 2 then some (gl_X11_lieDown_2 (k_X11_lieDown_2 n)) else if t = 80 then some (gl_X11_lieDown_80 (j_X11_lieDown_80 (k_X11_lieDown_2 n))) else none) 9 krV b_X11_lieDown 2 σ [vR 11 0, vI x1, vI x2] [] := by
  rw [k_X11_lieDown_2]
  refine Eq.symm ((zin_b (es := q_X11_lieDown_2) rfl).trans ?_)
  refine (t_X11_lieDown_2 _ _ _ _ _).trans ?_
  refine ((x_iald (N := 11) rfl rfl).trans (ix_l 0 (by decide +kernel))).trans ?_
  refine x_icmp.trans (pif_ge ?_ ?_)
  · refine (zrun_b (es := q_X11_lieDown_99) rfl rfl).trans ?_
    exact x_vret
  · refine (t_X11_lieDown_12 _ _ _ _).trans ?_
    refine (x_iald (N := 12) rfl rfl).trans (pix fun _ => ?_)
    refine x_if.trans (pif_ne ?_ ?_)
    · refine (zrun_b (es := q_X11_lieDown_93) rfl rfl).trans ?_
      refine (t_X11_lieDown_93 _ _ _ _ _).trans ?_
      refine x_goto.trans ?_
      exact (zrun_c rfl).trans (glr_X11_lieDown_2 _ _ _ _)
    · refine (t_X11_lieDown_21 _ _ _ _).trans ?_
      refine (x_callV rfl rfl rfl rfl).trans ((cl_X11_lieDown_X11_hasDuty _ _ _).trans ((gr_X11_hasDuty _ _ _).trans (pbd fun _ => ?_)))
      refine x_if.trans (pif_ne ?_ ?_)
      · refine (zrun_b (es := q_X11_lieDown_93) rfl rfl).trans ?_
        refine (t_X11_lieDown_93 _ _ _ _ _).trans ?_
        refine x_goto.trans ?_
        exact (zrun_c rfl).trans (glr_X11_lieDown_2 _ _ _ _)
      · refine (t_X11_lieDown_29 _ _ _ _).trans ?_
        refine (x_callV rfl rfl rfl rfl).trans ((cl_X11_lieDown_X11_isFeast _ _ _).trans ((gr_X11_isFeast _ _).trans (pbd fun _ => ?_)))
        refine x_if.trans (pif_ne ?_ ?_)
        · refine (zrun_b (es := q_X11_lieDown_93) rfl rfl).trans ?_
          refine (t_X11_lieDown_93 _ _ _ _ _).trans ?_
          refine x_goto.trans ?_
          exact (zrun_c rfl).trans (glr_X11_lieDown_2 _ _ _ _)
        · refine (t_X11_lieDown_36 _ _ _ _).trans ?_
          refine (x_callV rfl rfl rfl rfl).trans ((cl_X11_lieDown_X11_isFree _ _ _).trans ((gr_X11_isFree _ _ _).trans (pbd fun _ => ?_)))
          refine x_if.trans (pif_eq ?_ ?_)
          · refine (zrun_b (es := q_X11_lieDown_93) rfl rfl).trans ?_
            refine (t_X11_lieDown_93 _ _ _ _ _).trans ?_
            refine x_goto.trans ?_
            exact (zrun_c rfl).trans (glr_X11_lieDown_2 _ _ _ _)
          · refine (t_X11_lieDown_44 _ _ _ _ _).trans ?_
            refine (x_callV rfl rfl rfl rfl).trans ((cl_X11_lieDown_X11_some _ _ _).trans ((gr_X11_some _ _ _ _ _).trans (pbd fun _ => ?_)))
            refine x_if.trans (pif_eq ?_ ?_)
            · refine (zrun_b (es := q_X11_lieDown_93) rfl rfl).trans ?_
              refine (t_X11_lieDown_93 _ _ _ _ _).trans ?_
              refine x_goto.trans ?_
              exact (zrun_c rfl).trans (glr_X11_lieDown_2 _ _ _ _)
            · refine (t_X11_lieDown_54 _ _ _ _ _).trans ?_
              refine ((x_iald (N := 11) rfl rfl).trans (ix_l 7 (by decide +kernel))).trans ?_
              refine (t_X11_lieDown_62 _ _ _ _ _ _).trans ?_
              refine (x_callV rfl rfl rfl rfl).trans ((cl_X11_lieDown_X11_isWarm _ _ _).trans ((gr_X11_isWarm _ _ _).trans (pbd fun _ => ?_)))
              refine x_if.trans (pif_eq ?_ ?_)
              · refine (zrun_b (es := q_X11_lieDown_79) rfl rfl).trans ?_
                refine (t_X11_lieDown_79 _ _ _ _ _ _ _).trans ?_
                refine x_cut.trans ?_
                exact (zrun_c rfl).trans (glr_X11_lieDown_80 _ _ _ _ _ _ _)
              · refine (t_X11_lieDown_70 _ _ _ _ _ _).trans ?_
                refine (x_iald (N := 12) rfl rfl).trans (pix fun _ => ?_)
                refine x_goto.trans ?_
                exact (zrun_c rfl).trans (glr_X11_lieDown_80 _ _ _ _ _ _ _)
theorem s_X11_lieDown_2 {X : zX} (hX : zHX X)   : ∀ n σ L st r, gl_X11_lieDown_2 (k_X11_lieDown_2 n) σ L st = some r → zGW X 177 krV 2 σ L st r := by
  intro n
  induction n with
  | zero =>
    intro σ L st r h
    unfold gl_X11_lieDown_2 at h
    split at h <;> cases h
  | succ n ih =>
    intro σ L st r h
    unfold gl_X11_lieDown_2 at h
    split at h
    · exact zin_ok (hy_X11_lieDown hX) bk_X11_lieDown (fun t f hf => by
      by_cases e2 : t = 2
      · rw [if_pos e2] at hf; subst e2; cases hf; exact ih
      rw [if_neg e2] at hf
      by_cases e80 : t = 80
      · rw [if_pos e80] at hf; subst e80; cases hf; exact (s_X11_lieDown_80 hX ih)
      rw [if_neg e80] at hf
      cases hf) ((e_X11_lieDown_2 _ _ _ _).symm.trans h)
    · cases h
noncomputable def d_X11_lieDown (σ : zH) (xa1 : Int32) : Option zH :=
  (k_X11_lieDown_2 zN) σ xa1 (0 : Int32)
theorem e_X11_lieDown (σ : zH) (xa1 : Int32) : d_X11_lieDown σ xa1 = zin cc_X11_lieDown (fun t => if t = 2 then some (gl_X11_lieDown_2 (k_X11_lieDown_2 zN)) else none) 9 krV b_X11_lieDown 0 σ [vR 11 0, vI xa1, vU] [] := by
  unfold d_X11_lieDown
  refine Eq.symm ((zin_b (es := q_X11_lieDown_0) rfl).trans ?_)
  refine (t_X11_lieDown_0 _ _ _ _ _).trans ?_
  refine x_cut.trans ?_
  exact (zrun_c rfl).trans (glr_X11_lieDown_2 _ _ _ _)
noncomputable def g_X11_lieDown {ρ : Type} (σ : zH) (av : List zAV) (q : zH → zAV → Option ρ) : Option ρ := match av with
  | [.inr (.inr (.inl (11, 0))), .inl xa1] => (d_X11_lieDown σ xa1).bind fun σ => q σ vU
  | _ => none
theorem gr_X11_lieDown {ρ : Type} (σ : zH) (xa1 : Int32) (q : zH → zAV → Option ρ) : g_X11_lieDown σ [vR 11 0, vI xa1] q = (d_X11_lieDown σ xa1).bind fun σ => q σ vU := rfl
theorem c_X11_lieDown {ρ : Type} {X : zX} (hX : zHX X) {σ : zH} {av : List zAV} {q : zH → zAV → Option ρ} {r : ρ} (h : g_X11_lieDown σ av q = some r) (hv : ∀ a ∈ av, zval X a) : zcon X 177 σ av q r := by
  unfold g_X11_lieDown at h
  split at h
  · exact zcon_V (n := 177) (ml := 3) (rc := 9) (st := 0) (kd := 11) (np := 1) (by decide +kernel) rfl ⟨_, _, rfl, rfl⟩ (Nat.le_of_ble_eq_true rfl) hv h (fun y h1 => (zin_ok (hy_X11_lieDown hX) bk_X11_lieDown (fun t f hf => by
      by_cases e2 : t = 2
      · rw [if_pos e2] at hf; subst e2; cases hf; exact ((fun σ L st r h => s_X11_lieDown_2 hX  zN σ L st r h))
      rw [if_neg e2] at hf
      cases hf) ((e_X11_lieDown _ _).symm.trans h1)))
  · cases h
/-! SleepWavesModel.snores()V -/
def q_X11_snores_0 : List zEnt := zEk 0 (.iconst 0) 1 0 :: zE 1 (.istore_n 1) 1 :: [zE 2 .nop 0]
def q_X11_snores_60 : List zEnt := zEa 60 (.goto (-58)) 3 2 :: []
def q_X11_snores_57 : List zEnt := zEk 57 (.iinc 1 1) 3 1 :: q_X11_snores_60
def q_X11_snores_54 : List zEnt := zEc 54 (.invokevirtual 396) 3 171 5 161 1 :: q_X11_snores_57
def q_X11_snores_48 : List zEnt := zE 48 (.aload_n 0) 1 :: zE 49 (.iload_n 2) 1 :: zEk 50 (.iconst 0) 1 0 :: zEk 51 (.bipush 7) 2 7 :: zE 53 (.iload_n 1) 1 :: q_X11_snores_54
def q_X11_snores_45 : List zEnt := zEa 45 (.if_icmp .eq 12) 3 57 :: q_X11_snores_48
def q_X11_snores_42 : List zEnt := zE 42 (.istore_n 2) 1 :: zE 43 (.iload_n 2) 1 :: zEk 44 (.iconst (-1)) 1 (-1) :: q_X11_snores_45
def q_X11_snores_39 : List zEnt := zEc 39 (.invokevirtual 403) 3 176 2 166 0 :: q_X11_snores_42
def q_X11_snores_37 : List zEnt := zE 37 (.aload_n 0) 1 :: zE 38 (.iload_n 1) 1 :: q_X11_snores_39
def q_X11_snores_34 : List zEnt := zEa 34 (.if_icmp .ge 23) 3 57 :: q_X11_snores_37
def q_X11_snores_33 : List zEnt := zE 33 .iaload 1 :: q_X11_snores_34
def q_X11_snores_28 : List zEnt := zE 28 (.aload_n 0) 1 :: zEf 29 (.getfield 22) 3 11 5 153 (2, 46, 0) :: zE 32 (.iload_n 1) 1 :: q_X11_snores_33
def q_X11_snores_25 : List zEnt := zEc 25 (.invokevirtual 400) 3 175 2 165 0 :: q_X11_snores_28
def q_X11_snores_22 : List zEnt := zE 22 (.aload_n 0) 1 :: zEk 23 (.bipush 100) 2 100 :: q_X11_snores_25
def q_X11_snores_19 : List zEnt := zEa 19 (.if_icmp .ne 38) 3 57 :: q_X11_snores_22
def q_X11_snores_18 : List zEnt := zEk 18 (.iconst 1) 1 1 :: q_X11_snores_19
def q_X11_snores_17 : List zEnt := zE 17 .iaload 1 :: q_X11_snores_18
def q_X11_snores_12 : List zEnt := zE 12 (.aload_n 0) 1 :: zEf 13 (.getfield 70) 3 11 21 169 (2, 62, 0) :: zE 16 (.iload_n 1) 1 :: q_X11_snores_17
def q_X11_snores_9 : List zEnt := zEa 9 (.if_icmp .ge 54) 3 63 :: q_X11_snores_12
def q_X11_snores_8 : List zEnt := zE 8 .iaload 1 :: q_X11_snores_9
def q_X11_snores_2 : List zEnt := zE 2 (.iload_n 1) 1 :: zE 3 (.aload_n 0) 1 :: zEf 4 (.getfield 7) 3 11 1 149 (2, 42, 0) :: zEk 7 (.iconst 0) 1 0 :: q_X11_snores_8
def q_X11_snores_63 : List zEnt := zE 63 .return_ 1 :: []
def b_X11_snores : List (Nat × List zEnt) := [(0, q_X11_snores_0), (2, q_X11_snores_2), (57, q_X11_snores_57), (63, q_X11_snores_63)]
theorem bk_X11_snores : zchB 178 b_X11_snores = true := by decide +kernel
noncomputable def cc_X11_snores {ρ : Type} : Nat → zH → List zAV → (zH → zAV → Option ρ) → Option ρ := fun n σ av q => if n = 175 then g_X11_draws σ av q else if n = 176 then g_X11_neighbour σ av q else if n = 171 then g_X11_changes σ av q else none
theorem cs_X11_snores {ρ : Type} {X : zX} (hX : zHX X) : zCS X (cc_X11_snores (ρ := ρ)) := by
  intro n σ av q r h hv
  unfold cc_X11_snores at h
  by_cases e_X11_draws : n = 175
  · rw [if_pos e_X11_draws] at h
    subst e_X11_draws
    exact c_X11_draws hX h hv
  rw [if_neg e_X11_draws] at h
  by_cases e_X11_neighbour : n = 176
  · rw [if_pos e_X11_neighbour] at h
    subst e_X11_neighbour
    exact c_X11_neighbour hX h hv
  rw [if_neg e_X11_neighbour] at h
  by_cases e_X11_changes : n = 171
  · rw [if_pos e_X11_changes] at h
    subst e_X11_changes
    exact c_X11_changes hX h hv
  rw [if_neg e_X11_changes] at h
  cases h
theorem cl_X11_snores_X11_draws {ρ : Type} (σ : zH) (av : List zAV) (q : zH → zAV → Option ρ) : cc_X11_snores 175 σ av q = g_X11_draws σ av q := rfl
theorem cl_X11_snores_X11_neighbour {ρ : Type} (σ : zH) (av : List zAV) (q : zH → zAV → Option ρ) : cc_X11_snores 176 σ av q = g_X11_neighbour σ av q := rfl
theorem cl_X11_snores_X11_changes {ρ : Type} (σ : zH) (av : List zAV) (q : zH → zAV → Option ρ) : cc_X11_snores 171 σ av q = g_X11_changes σ av q := rfl
theorem hy_X11_snores {ρ : Type} {X : zX} (hX : zHX X) : zHY X 178 (cc_X11_snores (ρ := ρ)) := zHX.hY hX (cs_X11_snores hX) (zmok_all 178 (by decide))
def gl_X11_snores_2 {ρ : Type} (f : zH → Int32 → Option ρ) (σ : zH) (L st : List zAV) : Option ρ := match L, st with
  | [.inr (.inr (.inl (11, 0))), .inl x1, _], [] => f σ x1
  | _, _ => none
theorem glr_X11_snores_2 {ρ : Type} (f : zH → Int32 → Option ρ) (σ : zH) (x1 : Int32) (y2 : zAV) : gl_X11_snores_2 f σ [vR 11 0, vI x1, y2] [] = f σ x1 := rfl
theorem t_X11_snores_0 {G : Nat → zH → List zAV → List zAV → Option zH} (es : List zEnt) (σ : zH)  (y1 : zAV) (y2 : zAV) (w0 : Int32) : zev cc_X11_snores G 9 krV (zEk 0 (.iconst 0) 1 w0 :: zE 1 (.istore_n 1) 1 :: es) σ [vR 11 0, y1, y2] [] = zev cc_X11_snores G 9 krV es σ [vR 11 0, vI w0, y2] [] := rfl
theorem t_X11_snores_2 {G : Nat → zH → List zAV → List zAV → Option zH} (es : List zEnt) (σ : zH) (x1 : Int32) (y2 : zAV) (w7 : Int32) : zev cc_X11_snores G 9 krV (zE 2 (.iload_n 1) 1 :: zE 3 (.aload_n 0) 1 :: zEf 4 (.getfield 7) 3 11 1 149 (2, 42, 0) :: zEk 7 (.iconst 0) 1 w7 :: es) σ [vR 11 0, vI x1, y2] [] = zev cc_X11_snores G 9 krV es σ [vR 11 0, vI x1, y2] [vI w7, vR 42 0, vI x1] := rfl
theorem t_X11_snores_12 {G : Nat → zH → List zAV → List zAV → Option zH} (es : List zEnt) (σ : zH) (x1 : Int32) (y2 : zAV)  : zev cc_X11_snores G 9 krV (zE 12 (.aload_n 0) 1 :: zEf 13 (.getfield 70) 3 11 21 169 (2, 62, 0) :: zE 16 (.iload_n 1) 1 :: es) σ [vR 11 0, vI x1, y2] [] = zev cc_X11_snores G 9 krV es σ [vR 11 0, vI x1, y2] [vI x1, vR 62 0] := rfl
theorem t_X11_snores_18 {G : Nat → zH → List zAV → List zAV → Option zH} (es : List zEnt) (σ : zH) (x1 : Int32) (xs0 : Int32) (y2 : zAV) (w18 : Int32) : zev cc_X11_snores G 9 krV (zEk 18 (.iconst 1) 1 w18 :: es) σ [vR 11 0, vI x1, y2] [vI xs0] = zev cc_X11_snores G 9 krV es σ [vR 11 0, vI x1, y2] [vI w18, vI xs0] := rfl
theorem t_X11_snores_22 {G : Nat → zH → List zAV → List zAV → Option zH} (es : List zEnt) (σ : zH) (x1 : Int32) (y2 : zAV) (w23 : Int32) : zev cc_X11_snores G 9 krV (zE 22 (.aload_n 0) 1 :: zEk 23 (.bipush 100) 2 w23 :: es) σ [vR 11 0, vI x1, y2] [] = zev cc_X11_snores G 9 krV es σ [vR 11 0, vI x1, y2] [vI w23, vR 11 0] := rfl
theorem t_X11_snores_28 {G : Nat → zH → List zAV → List zAV → Option zH} (es : List zEnt) (σ : zH) (x1 : Int32) (xs0 : Int32) (y2 : zAV)  : zev cc_X11_snores G 9 krV (zE 28 (.aload_n 0) 1 :: zEf 29 (.getfield 22) 3 11 5 153 (2, 46, 0) :: zE 32 (.iload_n 1) 1 :: es) σ [vR 11 0, vI x1, y2] [vI xs0] = zev cc_X11_snores G 9 krV es σ [vR 11 0, vI x1, y2] [vI x1, vR 46 0, vI xs0] := rfl
theorem t_X11_snores_37 {G : Nat → zH → List zAV → List zAV → Option zH} (es : List zEnt) (σ : zH) (x1 : Int32) (y2 : zAV)  : zev cc_X11_snores G 9 krV (zE 37 (.aload_n 0) 1 :: zE 38 (.iload_n 1) 1 :: es) σ [vR 11 0, vI x1, y2] [] = zev cc_X11_snores G 9 krV es σ [vR 11 0, vI x1, y2] [vI x1, vR 11 0] := rfl
theorem t_X11_snores_42 {G : Nat → zH → List zAV → List zAV → Option zH} (es : List zEnt) (σ : zH) (x1 : Int32) (xs0 : Int32) (y2 : zAV) (w44 : Int32) : zev cc_X11_snores G 9 krV (zE 42 (.istore_n 2) 1 :: zE 43 (.iload_n 2) 1 :: zEk 44 (.iconst (-1)) 1 w44 :: es) σ [vR 11 0, vI x1, y2] [vI xs0] = zev cc_X11_snores G 9 krV es σ [vR 11 0, vI x1, vI xs0] [vI w44, vI xs0] := rfl
theorem t_X11_snores_48 {G : Nat → zH → List zAV → List zAV → Option zH} (es : List zEnt) (σ : zH) (x1 : Int32) (x2 : Int32)  (w50 : Int32) (w51 : Int32) : zev cc_X11_snores G 9 krV (zE 48 (.aload_n 0) 1 :: zE 49 (.iload_n 2) 1 :: zEk 50 (.iconst 0) 1 w50 :: zEk 51 (.bipush 7) 2 w51 :: zE 53 (.iload_n 1) 1 :: es) σ [vR 11 0, vI x1, vI x2] [] = zev cc_X11_snores G 9 krV es σ [vR 11 0, vI x1, vI x2] [vI x1, vI w51, vI w50, vI x2, vR 11 0] := rfl
theorem t_X11_snores_57 {G : Nat → zH → List zAV → List zAV → Option zH} (es : List zEnt) (σ : zH) (x1 : Int32) (y2 : zAV) (w57 : Int32) : zev cc_X11_snores G 9 krV (zEk 57 (.iinc 1 1) 3 w57 :: es) σ [vR 11 0, vI x1, y2] [] = zev cc_X11_snores G 9 krV es σ [vR 11 0, vI (x1 + w57), y2] [] := rfl
noncomputable def k_X11_snores_2  : Nat → zH → Int32 → Option zH
  | 0, _, _ => none
  | n + 1, σ, x1 =>
    if x1 < (σ.1 42 0 0) then
      ix x1 12 fun j1 =>
      if (σ.1 62 0 j1) = (1 : Int32) then
        (d_X11_draws σ (100 : Int32)).bind fun p2 =>
        ix x1 12 fun j3 =>
        if p2.2 < (p2.1.1 46 0 j3) then
          (d_X11_neighbour p2.1 x1).bind fun p4 =>
          if p4.2 = (-1 : Int32) then
            (k_X11_snores_2 n) p4.1 (x1 + (1 : Int32))
          else
            (d_X11_changes p4.1 p4.2 (0 : Int32) (7 : Int32) x1).bind fun σ5 =>
            (k_X11_snores_2 n) σ5 (x1 + (1 : Int32))
        else
          (k_X11_snores_2 n) p2.1 (x1 + (1 : Int32))
      else
        (k_X11_snores_2 n) σ (x1 + (1 : Int32))
    else
      some σ
theorem e_X11_snores_2  (n : Nat) (σ : zH) (x1 : Int32) (y2 : zAV) : k_X11_snores_2 (n + 1) σ x1 = zin cc_X11_snores (fun t => if t = 2 then some (gl_X11_snores_2 (k_X11_snores_2 n)) else none) 9 krV b_X11_snores 2 σ [vR 11 0, vI x1, y2] [] := by
  rw [k_X11_snores_2]
  refine Eq.symm ((zin_b (es := q_X11_snores_2) rfl).trans ?_)
  refine (t_X11_snores_2 _ _ _ _ _).trans ?_
  refine ((x_iald (N := 11) rfl rfl).trans (ix_l 0 (by decide +kernel))).trans ?_
  refine x_icmp.trans (pif_ge ?_ ?_)
  · refine (zrun_b (es := q_X11_snores_63) rfl rfl).trans ?_
    exact x_vret
  · refine (t_X11_snores_12 _ _ _ _).trans ?_
    refine (x_iald (N := 12) rfl rfl).trans (pix fun _ => ?_)
    refine (t_X11_snores_18 _ _ _ _ _ _).trans ?_
    refine x_icmp.trans (pif_ne ?_ ?_)
    · refine (zrun_b (es := q_X11_snores_57) rfl rfl).trans ?_
      refine (t_X11_snores_57 _ _ _ _ _).trans ?_
      refine x_goto.trans ?_
      exact (zrun_c rfl).trans (glr_X11_snores_2 _ _ _ _)
    · refine (t_X11_snores_22 _ _ _ _ _).trans ?_
      refine (x_callV rfl rfl rfl rfl).trans ((cl_X11_snores_X11_draws _ _ _).trans ((gr_X11_draws _ _ _).trans (pbd fun _ => ?_)))
      refine (t_X11_snores_28 _ _ _ _ _).trans ?_
      refine (x_iald (N := 12) rfl rfl).trans (pix fun _ => ?_)
      refine x_icmp.trans (pif_ge ?_ ?_)
      · refine (zrun_b (es := q_X11_snores_57) rfl rfl).trans ?_
        refine (t_X11_snores_57 _ _ _ _ _).trans ?_
        refine x_goto.trans ?_
        exact (zrun_c rfl).trans (glr_X11_snores_2 _ _ _ _)
      · refine (t_X11_snores_37 _ _ _ _).trans ?_
        refine (x_callV rfl rfl rfl rfl).trans ((cl_X11_snores_X11_neighbour _ _ _).trans ((gr_X11_neighbour _ _ _).trans (pbd fun _ => ?_)))
        refine (t_X11_snores_42 _ _ _ _ _ _).trans ?_
        refine x_icmp.trans (pif_eq ?_ ?_)
        · refine (zrun_b (es := q_X11_snores_57) rfl rfl).trans ?_
          refine (t_X11_snores_57 _ _ _ _ _).trans ?_
          refine x_goto.trans ?_
          exact (zrun_c rfl).trans (glr_X11_snores_2 _ _ _ _)
        · refine (t_X11_snores_48 _ _ _ _ _ _).trans ?_
          refine (x_callV rfl rfl rfl rfl).trans ((cl_X11_snores_X11_changes _ _ _).trans ((gr_X11_changes _ _ _ _ _ _).trans (pbd fun _ => ?_)))
          refine (t_X11_snores_57 _ _ _ _ _).trans ?_
          refine x_goto.trans ?_
          exact (zrun_c rfl).trans (glr_X11_snores_2 _ _ _ _)
theorem s_X11_snores_2 {X : zX} (hX : zHX X)   : ∀ n σ L st r, gl_X11_snores_2 (k_X11_snores_2 n) σ L st = some r → zGW X 178 krV 2 σ L st r := by
  intro n
  induction n with
  | zero =>
    intro σ L st r h
    unfold gl_X11_snores_2 at h
    split at h <;> cases h
  | succ n ih =>
    intro σ L st r h
    unfold gl_X11_snores_2 at h
    split at h
    · exact zin_ok (hy_X11_snores hX) bk_X11_snores (fun t f hf => by
      by_cases e2 : t = 2
      · rw [if_pos e2] at hf; subst e2; cases hf; exact ih
      rw [if_neg e2] at hf
      cases hf) ((e_X11_snores_2 _ _ _ _).symm.trans h)
    · cases h
noncomputable def d_X11_snores (σ : zH)  : Option zH :=
  (k_X11_snores_2 zN) σ (0 : Int32)
theorem e_X11_snores (σ : zH)  : d_X11_snores σ = zin cc_X11_snores (fun t => if t = 2 then some (gl_X11_snores_2 (k_X11_snores_2 zN)) else none) 9 krV b_X11_snores 0 σ [vR 11 0, vU, vU] [] := by
  unfold d_X11_snores
  refine Eq.symm ((zin_b (es := q_X11_snores_0) rfl).trans ?_)
  refine (t_X11_snores_0 _ _ _ _ _).trans ?_
  refine x_cut.trans ?_
  exact (zrun_c rfl).trans (glr_X11_snores_2 _ _ _ _)
noncomputable def g_X11_snores {ρ : Type} (σ : zH) (av : List zAV) (q : zH → zAV → Option ρ) : Option ρ := match av with
  | [.inr (.inr (.inl (11, 0)))] => (d_X11_snores σ).bind fun σ => q σ vU
  | _ => none
theorem gr_X11_snores {ρ : Type} (σ : zH)  (q : zH → zAV → Option ρ) : g_X11_snores σ [vR 11 0] q = (d_X11_snores σ).bind fun σ => q σ vU := rfl
theorem c_X11_snores {ρ : Type} {X : zX} (hX : zHX X) {σ : zH} {av : List zAV} {q : zH → zAV → Option ρ} {r : ρ} (h : g_X11_snores σ av q = some r) (hv : ∀ a ∈ av, zval X a) : zcon X 178 σ av q r := by
  unfold g_X11_snores at h
  split at h
  · exact zcon_V (n := 178) (ml := 3) (rc := 9) (st := 0) (kd := 11) (np := 0) (by decide +kernel) rfl ⟨_, _, rfl, rfl⟩ (Nat.le_of_ble_eq_true rfl) hv h (fun y h1 => (zin_ok (hy_X11_snores hX) bk_X11_snores (fun t f hf => by
      by_cases e2 : t = 2
      · rw [if_pos e2] at hf; subst e2; cases hf; exact ((fun σ L st r h => s_X11_snores_2 hX  zN σ L st r h))
      rw [if_neg e2] at hf
      cases hf) ((e_X11_snores _).symm.trans h1)))
  · cases h
/-! SleepWavesModel.wakes(II)V -/
def q_X11_wakes_20 : List zEnt := zEa 20 (.goto 43) 3 63 :: []
def q_X11_wakes_17 : List zEnt := zEc 17 (.invokevirtual 396) 3 171 5 161 1 :: q_X11_wakes_20
def q_X11_wakes_14 : List zEnt := zEc 14 (.invokevirtual 406) 3 173 2 163 0 :: q_X11_wakes_17
def q_X11_wakes_8 : List zEnt := zE 8 (.aload_n 0) 1 :: zE 9 (.iload_n 2) 1 :: zEk 10 (.iconst 0) 1 0 :: zEk 11 (.iconst 4) 1 4 :: zE 12 (.aload_n 0) 1 :: zE 13 (.iload_n 2) 1 :: q_X11_wakes_14
def q_X11_wakes_5 : List zEnt := zEa 5 (.ifCond .eq 18) 3 23 :: q_X11_wakes_8
def q_X11_wakes_2 : List zEnt := zEc 2 (.invokevirtual 376) 3 130 2 149 0 :: q_X11_wakes_5
def q_X11_wakes_0 : List zEnt := zE 0 (.aload_n 0) 1 :: zE 1 (.iload_n 2) 1 :: q_X11_wakes_2
def q_X11_wakes_38 : List zEnt := zEa 38 (.goto 25) 3 63 :: []
def q_X11_wakes_35 : List zEnt := zEc 35 (.invokevirtual 396) 3 171 5 161 1 :: q_X11_wakes_38
def q_X11_wakes_30 : List zEnt := zE 30 (.aload_n 0) 1 :: zE 31 (.iload_n 2) 1 :: zEk 32 (.iconst 0) 1 0 :: zEk 33 (.iconst 5) 1 5 :: zEk 34 (.iconst (-1)) 1 (-1) :: q_X11_wakes_35
def q_X11_wakes_27 : List zEnt := zEa 27 (.ifCond .eq 14) 3 41 :: q_X11_wakes_30
def q_X11_wakes_24 : List zEnt := zEc 24 (.invokevirtual 380) 3 174 1 150 0 :: q_X11_wakes_27
def q_X11_wakes_23 : List zEnt := zE 23 (.aload_n 0) 1 :: q_X11_wakes_24
def q_X11_wakes_63 : List zEnt := zE 63 .return_ 1 :: []
def q_X11_wakes_60 : List zEnt := zEc 60 (.invokevirtual 396) 3 171 5 161 1 :: q_X11_wakes_63
def q_X11_wakes_57 : List zEnt := zEc 57 (.invokevirtual 393) 3 172 1 160 0 :: q_X11_wakes_60
def q_X11_wakes_51 : List zEnt := zE 51 (.aload_n 0) 1 :: zE 52 (.iload_n 2) 1 :: zEk 53 (.iconst 0) 1 0 :: zEk 54 (.bipush 6) 2 6 :: zE 56 (.aload_n 0) 1 :: q_X11_wakes_57
def q_X11_wakes_48 : List zEnt := zEa 48 (.ifCond .eq 15) 3 63 :: q_X11_wakes_51
def q_X11_wakes_45 : List zEnt := zEc 45 (.invokevirtual 386) 3 168 4 152 0 :: q_X11_wakes_48
def q_X11_wakes_41 : List zEnt := zE 41 (.aload_n 0) 1 :: zE 42 (.iload_n 1) 1 :: zEk 43 (.iconst 1) 1 1 :: zE 44 (.iload_n 2) 1 :: q_X11_wakes_45
def b_X11_wakes : List (Nat × List zEnt) := [(0, q_X11_wakes_0), (23, q_X11_wakes_23), (41, q_X11_wakes_41), (63, q_X11_wakes_63)]
theorem bk_X11_wakes : zchB 179 b_X11_wakes = true := by decide +kernel
noncomputable def cc_X11_wakes {ρ : Type} : Nat → zH → List zAV → (zH → zAV → Option ρ) → Option ρ := fun n σ av q => if n = 130 then g_X11_hasDuty σ av q else if n = 173 then g_X11_dutyNow σ av q else if n = 171 then g_X11_changes σ av q else if n = 174 then g_X11_isFeast σ av q else if n = 168 then g_X11_some σ av q else if n = 172 then g_X11_bellNow σ av q else none
theorem cs_X11_wakes {ρ : Type} {X : zX} (hX : zHX X) : zCS X (cc_X11_wakes (ρ := ρ)) := by
  intro n σ av q r h hv
  unfold cc_X11_wakes at h
  by_cases e_X11_hasDuty : n = 130
  · rw [if_pos e_X11_hasDuty] at h
    subst e_X11_hasDuty
    exact c_X11_hasDuty hX h hv
  rw [if_neg e_X11_hasDuty] at h
  by_cases e_X11_dutyNow : n = 173
  · rw [if_pos e_X11_dutyNow] at h
    subst e_X11_dutyNow
    exact c_X11_dutyNow hX h hv
  rw [if_neg e_X11_dutyNow] at h
  by_cases e_X11_changes : n = 171
  · rw [if_pos e_X11_changes] at h
    subst e_X11_changes
    exact c_X11_changes hX h hv
  rw [if_neg e_X11_changes] at h
  by_cases e_X11_isFeast : n = 174
  · rw [if_pos e_X11_isFeast] at h
    subst e_X11_isFeast
    exact c_X11_isFeast hX h hv
  rw [if_neg e_X11_isFeast] at h
  by_cases e_X11_some : n = 168
  · rw [if_pos e_X11_some] at h
    subst e_X11_some
    exact c_X11_some hX h hv
  rw [if_neg e_X11_some] at h
  by_cases e_X11_bellNow : n = 172
  · rw [if_pos e_X11_bellNow] at h
    subst e_X11_bellNow
    exact c_X11_bellNow hX h hv
  rw [if_neg e_X11_bellNow] at h
  cases h
theorem cl_X11_wakes_X11_hasDuty {ρ : Type} (σ : zH) (av : List zAV) (q : zH → zAV → Option ρ) : cc_X11_wakes 130 σ av q = g_X11_hasDuty σ av q := rfl
theorem cl_X11_wakes_X11_dutyNow {ρ : Type} (σ : zH) (av : List zAV) (q : zH → zAV → Option ρ) : cc_X11_wakes 173 σ av q = g_X11_dutyNow σ av q := rfl
theorem cl_X11_wakes_X11_changes {ρ : Type} (σ : zH) (av : List zAV) (q : zH → zAV → Option ρ) : cc_X11_wakes 171 σ av q = g_X11_changes σ av q := rfl
theorem cl_X11_wakes_X11_isFeast {ρ : Type} (σ : zH) (av : List zAV) (q : zH → zAV → Option ρ) : cc_X11_wakes 174 σ av q = g_X11_isFeast σ av q := rfl
theorem cl_X11_wakes_X11_some {ρ : Type} (σ : zH) (av : List zAV) (q : zH → zAV → Option ρ) : cc_X11_wakes 168 σ av q = g_X11_some σ av q := rfl
theorem cl_X11_wakes_X11_bellNow {ρ : Type} (σ : zH) (av : List zAV) (q : zH → zAV → Option ρ) : cc_X11_wakes 172 σ av q = g_X11_bellNow σ av q := rfl
theorem hy_X11_wakes {ρ : Type} {X : zX} (hX : zHX X) : zHY X 179 (cc_X11_wakes (ρ := ρ)) := zHX.hY hX (cs_X11_wakes hX) (zmok_all 179 (by decide))
theorem t_X11_wakes_0 {G : Nat → zH → List zAV → List zAV → Option zH} (es : List zEnt) (σ : zH) (x1 : Int32) (x2 : Int32)   : zev cc_X11_wakes G 9 krV (zE 0 (.aload_n 0) 1 :: zE 1 (.iload_n 2) 1 :: es) σ [vR 11 0, vI x1, vI x2] [] = zev cc_X11_wakes G 9 krV es σ [vR 11 0, vI x1, vI x2] [vI x2, vR 11 0] := rfl
theorem t_X11_wakes_8 {G : Nat → zH → List zAV → List zAV → Option zH} (es : List zEnt) (σ : zH) (x2 : Int32) (y1 : zAV) (w10 : Int32) (w11 : Int32) : zev cc_X11_wakes G 9 krV (zE 8 (.aload_n 0) 1 :: zE 9 (.iload_n 2) 1 :: zEk 10 (.iconst 0) 1 w10 :: zEk 11 (.iconst 4) 1 w11 :: zE 12 (.aload_n 0) 1 :: zE 13 (.iload_n 2) 1 :: es) σ [vR 11 0, y1, vI x2] [] = zev cc_X11_wakes G 9 krV es σ [vR 11 0, y1, vI x2] [vI x2, vR 11 0, vI w11, vI w10, vI x2, vR 11 0] := rfl
theorem t_X11_wakes_23 {G : Nat → zH → List zAV → List zAV → Option zH} (es : List zEnt) (σ : zH) (x1 : Int32) (x2 : Int32)   : zev cc_X11_wakes G 9 krV (zE 23 (.aload_n 0) 1 :: es) σ [vR 11 0, vI x1, vI x2] [] = zev cc_X11_wakes G 9 krV es σ [vR 11 0, vI x1, vI x2] [vR 11 0] := rfl
theorem t_X11_wakes_30 {G : Nat → zH → List zAV → List zAV → Option zH} (es : List zEnt) (σ : zH) (x2 : Int32) (y1 : zAV) (w32 : Int32) (w33 : Int32) (w34 : Int32) : zev cc_X11_wakes G 9 krV (zE 30 (.aload_n 0) 1 :: zE 31 (.iload_n 2) 1 :: zEk 32 (.iconst 0) 1 w32 :: zEk 33 (.iconst 5) 1 w33 :: zEk 34 (.iconst (-1)) 1 w34 :: es) σ [vR 11 0, y1, vI x2] [] = zev cc_X11_wakes G 9 krV es σ [vR 11 0, y1, vI x2] [vI w34, vI w33, vI w32, vI x2, vR 11 0] := rfl
theorem t_X11_wakes_41 {G : Nat → zH → List zAV → List zAV → Option zH} (es : List zEnt) (σ : zH) (x1 : Int32) (x2 : Int32)  (w43 : Int32) : zev cc_X11_wakes G 9 krV (zE 41 (.aload_n 0) 1 :: zE 42 (.iload_n 1) 1 :: zEk 43 (.iconst 1) 1 w43 :: zE 44 (.iload_n 2) 1 :: es) σ [vR 11 0, vI x1, vI x2] [] = zev cc_X11_wakes G 9 krV es σ [vR 11 0, vI x1, vI x2] [vI x2, vI w43, vI x1, vR 11 0] := rfl
theorem t_X11_wakes_51 {G : Nat → zH → List zAV → List zAV → Option zH} (es : List zEnt) (σ : zH) (x2 : Int32) (y1 : zAV) (w53 : Int32) (w54 : Int32) : zev cc_X11_wakes G 9 krV (zE 51 (.aload_n 0) 1 :: zE 52 (.iload_n 2) 1 :: zEk 53 (.iconst 0) 1 w53 :: zEk 54 (.bipush 6) 2 w54 :: zE 56 (.aload_n 0) 1 :: es) σ [vR 11 0, y1, vI x2] [] = zev cc_X11_wakes G 9 krV es σ [vR 11 0, y1, vI x2] [vR 11 0, vI w54, vI w53, vI x2, vR 11 0] := rfl
noncomputable def d_X11_wakes (σ : zH) (xa1 : Int32) (xa2 : Int32) : Option zH :=
  (d_X11_hasDuty σ xa2).bind fun p1 =>
  if p1.2 = 0 then
    (d_X11_isFeast p1.1).bind fun p2 =>
    if p2.2 = 0 then
      (d_X11_some p2.1 xa1 (1 : Int32) xa2).bind fun p3 =>
      if p3.2 = 0 then
        some p3.1
      else
        (d_X11_bellNow p3.1).bind fun p4 =>
        (d_X11_changes p4.1 xa2 (0 : Int32) (6 : Int32) p4.2).bind fun σ5 =>
        some σ5
    else
      (d_X11_changes p2.1 xa2 (0 : Int32) (5 : Int32) (-1 : Int32)).bind fun σ6 =>
      some σ6
  else
    (d_X11_dutyNow p1.1 xa2).bind fun p7 =>
    (d_X11_changes p7.1 xa2 (0 : Int32) (4 : Int32) p7.2).bind fun σ8 =>
    some σ8
theorem e_X11_wakes (σ : zH) (xa1 : Int32) (xa2 : Int32) : d_X11_wakes σ xa1 xa2 = zin cc_X11_wakes (fun t => none) 9 krV b_X11_wakes 0 σ [vR 11 0, vI xa1, vI xa2] [] := by
  unfold d_X11_wakes
  refine Eq.symm ((zin_b (es := q_X11_wakes_0) rfl).trans ?_)
  refine (t_X11_wakes_0 _ _ _ _).trans ?_
  refine (x_callV rfl rfl rfl rfl).trans ((cl_X11_wakes_X11_hasDuty _ _ _).trans ((gr_X11_hasDuty _ _ _).trans (pbd fun _ => ?_)))
  refine x_if.trans (pif_eq ?_ ?_)
  · refine (zrun_b (es := q_X11_wakes_23) rfl rfl).trans ?_
    refine (t_X11_wakes_23 _ _ _ _).trans ?_
    refine (x_callV rfl rfl rfl rfl).trans ((cl_X11_wakes_X11_isFeast _ _ _).trans ((gr_X11_isFeast _ _).trans (pbd fun _ => ?_)))
    refine x_if.trans (pif_eq ?_ ?_)
    · refine (zrun_b (es := q_X11_wakes_41) rfl rfl).trans ?_
      refine (t_X11_wakes_41 _ _ _ _ _).trans ?_
      refine (x_callV rfl rfl rfl rfl).trans ((cl_X11_wakes_X11_some _ _ _).trans ((gr_X11_some _ _ _ _ _).trans (pbd fun _ => ?_)))
      refine x_if.trans (pif_eq ?_ ?_)
      · refine (zrun_b (es := q_X11_wakes_63) rfl rfl).trans ?_
        exact x_vret
      · refine (t_X11_wakes_51 _ _ _ _ _ _).trans ?_
        refine (x_callV rfl rfl rfl rfl).trans ((cl_X11_wakes_X11_bellNow _ _ _).trans ((gr_X11_bellNow _ _).trans (pbd fun _ => ?_)))
        refine (x_callV rfl rfl rfl rfl).trans ((cl_X11_wakes_X11_changes _ _ _).trans ((gr_X11_changes _ _ _ _ _ _).trans (pbd fun _ => ?_)))
        exact x_vret
    · refine (t_X11_wakes_30 _ _ _ _ _ _ _).trans ?_
      refine (x_callV rfl rfl rfl rfl).trans ((cl_X11_wakes_X11_changes _ _ _).trans ((gr_X11_changes _ _ _ _ _ _).trans (pbd fun _ => ?_)))
      refine x_goto.trans ?_
      refine (zrun_b (es := q_X11_wakes_63) rfl rfl).trans ?_
      exact x_vret
  · refine (t_X11_wakes_8 _ _ _ _ _ _).trans ?_
    refine (x_callV rfl rfl rfl rfl).trans ((cl_X11_wakes_X11_dutyNow _ _ _).trans ((gr_X11_dutyNow _ _ _).trans (pbd fun _ => ?_)))
    refine (x_callV rfl rfl rfl rfl).trans ((cl_X11_wakes_X11_changes _ _ _).trans ((gr_X11_changes _ _ _ _ _ _).trans (pbd fun _ => ?_)))
    refine x_goto.trans ?_
    refine (zrun_b (es := q_X11_wakes_63) rfl rfl).trans ?_
    exact x_vret
noncomputable def g_X11_wakes {ρ : Type} (σ : zH) (av : List zAV) (q : zH → zAV → Option ρ) : Option ρ := match av with
  | [.inr (.inr (.inl (11, 0))), .inl xa1, .inl xa2] => (d_X11_wakes σ xa1 xa2).bind fun σ => q σ vU
  | _ => none
theorem gr_X11_wakes {ρ : Type} (σ : zH) (xa1 : Int32) (xa2 : Int32) (q : zH → zAV → Option ρ) : g_X11_wakes σ [vR 11 0, vI xa1, vI xa2] q = (d_X11_wakes σ xa1 xa2).bind fun σ => q σ vU := rfl
theorem c_X11_wakes {ρ : Type} {X : zX} (hX : zHX X) {σ : zH} {av : List zAV} {q : zH → zAV → Option ρ} {r : ρ} (h : g_X11_wakes σ av q = some r) (hv : ∀ a ∈ av, zval X a) : zcon X 179 σ av q r := by
  unfold g_X11_wakes at h
  split at h
  · exact zcon_V (n := 179) (ml := 3) (rc := 9) (st := 0) (kd := 11) (np := 2) (by decide +kernel) rfl ⟨_, _, rfl, rfl⟩ (Nat.le_of_ble_eq_true rfl) hv h (fun y h1 => (zin_ok (hy_X11_wakes hX) bk_X11_wakes (fun t f hf => by
      cases hf) ((e_X11_wakes _ _ _).symm.trans h1)))
  · cases h
/-! SleepWavesModel.quarter(I)V -/
def q_X11_quarter_10 : List zEnt := zEk 10 (.iconst 0) 1 0 :: zE 11 (.istore_n 3) 1 :: [zE 12 .nop 0]
def q_X11_quarter_7 : List zEnt := zEc 7 (.invokevirtual 409) 3 177 2 148 1 :: q_X11_quarter_10
def q_X11_quarter_4 : List zEnt := zE 4 (.istore_n 2) 1 :: zE 5 (.aload_n 0) 1 :: zE 6 (.iload_n 1) 1 :: q_X11_quarter_7
def q_X11_quarter_1 : List zEnt := zEc 1 (.invokevirtual 356) 3 128 1 147 0 :: q_X11_quarter_4
def q_X11_quarter_0 : List zEnt := zE 0 (.aload_n 0) 1 :: q_X11_quarter_1
def q_X11_quarter_39 : List zEnt := zEa 39 (.goto (-27)) 3 12 :: []
def q_X11_quarter_36 : List zEnt := zEk 36 (.iinc 3 1) 3 1 :: q_X11_quarter_39
def q_X11_quarter_33 : List zEnt := zEc 33 (.invokevirtual 412) 3 179 3 162 1 :: q_X11_quarter_36
def q_X11_quarter_30 : List zEnt := zE 30 (.aload_n 0) 1 :: zE 31 (.iload_n 1) 1 :: zE 32 (.iload_n 3) 1 :: q_X11_quarter_33
def q_X11_quarter_27 : List zEnt := zEa 27 (.ifCond .ne 9) 3 36 :: q_X11_quarter_30
def q_X11_quarter_24 : List zEnt := zEc 24 (.invokestatic 177) 3 126 2 154 0 :: q_X11_quarter_27
def q_X11_quarter_22 : List zEnt := zE 22 (.iload_n 2) 1 :: zE 23 (.iload_n 3) 1 :: q_X11_quarter_24
def q_X11_quarter_19 : List zEnt := zEa 19 (.if_icmp .ge 23) 3 42 :: q_X11_quarter_22
def q_X11_quarter_18 : List zEnt := zE 18 .iaload 1 :: q_X11_quarter_19
def q_X11_quarter_12 : List zEnt := zE 12 (.iload_n 3) 1 :: zE 13 (.aload_n 0) 1 :: zEf 14 (.getfield 7) 3 11 1 149 (2, 42, 0) :: zEk 17 (.iconst 0) 1 0 :: q_X11_quarter_18
def q_X11_quarter_46 : List zEnt := zEk 46 (.iconst 0) 1 0 :: zE 47 (.istore_n 3) 1 :: [zE 48 .nop 0]
def q_X11_quarter_43 : List zEnt := zEc 43 (.invokevirtual 415) 3 178 1 164 1 :: q_X11_quarter_46
def q_X11_quarter_42 : List zEnt := zE 42 (.aload_n 0) 1 :: q_X11_quarter_43
def q_X11_quarter_76 : List zEnt := zEa 76 (.goto 4) 3 80 :: []
def q_X11_quarter_74 : List zEnt := zEk 74 (.bipush (-2)) 2 (-2) :: q_X11_quarter_76
def q_X11_quarter_71 : List zEnt := zEa 71 (.if_icmp .ne 8) 3 79 :: q_X11_quarter_74
def q_X11_quarter_70 : List zEnt := zEk 70 (.iconst 1) 1 1 :: q_X11_quarter_71
def q_X11_quarter_69 : List zEnt := zE 69 .iaload 1 :: q_X11_quarter_70
def q_X11_quarter_64 : List zEnt := zE 64 (.aload_n 0) 1 :: zEf 65 (.getfield 70) 3 11 21 169 (2, 62, 0) :: zE 68 (.iload_n 3) 1 :: q_X11_quarter_69
def q_X11_quarter_63 : List zEnt := zE 63 .iaload 1 :: q_X11_quarter_64
def q_X11_quarter_58 : List zEnt := zE 58 (.aload_n 0) 1 :: zEf 59 (.getfield 73) 3 11 22 170 (2, 63, 0) :: zE 62 (.iload_n 3) 1 :: q_X11_quarter_63
def q_X11_quarter_55 : List zEnt := zEa 55 (.if_icmp .ge 91) 3 146 :: q_X11_quarter_58
def q_X11_quarter_54 : List zEnt := zE 54 .iaload 1 :: q_X11_quarter_55
def q_X11_quarter_48 : List zEnt := zE 48 (.iload_n 3) 1 :: zE 49 (.aload_n 0) 1 :: zEf 50 (.getfield 7) 3 11 1 149 (2, 42, 0) :: zEk 53 (.iconst 0) 1 0 :: q_X11_quarter_54
def q_X11_quarter_79 : List zEnt := zEk 79 (.iconst 1) 1 1 :: [zE 80 .nop 0]
def q_X11_quarter_94 : List zEnt := zEa 94 (.goto 19) 3 113 :: []
def q_X11_quarter_93 : List zEnt := zEk 93 (.iconst 0) 1 0 :: q_X11_quarter_94
def q_X11_quarter_90 : List zEnt := zEa 90 (.ifCond .ge 7) 3 97 :: q_X11_quarter_93
def q_X11_quarter_80 : List zEnt := zE 80 .iadd 1 :: zE 81 (.istore 4) 2 :: zE 83 (.aload_n 0) 1 :: zEf 84 (.getfield 73) 3 11 22 170 (2, 63, 0) :: zE 87 (.iload_n 3) 1 :: zE 88 (.iload 4) 2 :: q_X11_quarter_90
def q_X11_quarter_108 : List zEnt := zEa 108 (.goto 5) 3 113 :: []
def q_X11_quarter_105 : List zEnt := zEk 105 (.sipush 999) 3 999 :: q_X11_quarter_108
def q_X11_quarter_102 : List zEnt := zEa 102 (.if_icmp .le 9) 3 111 :: q_X11_quarter_105
def q_X11_quarter_97 : List zEnt := zE 97 (.iload 4) 2 :: zEk 99 (.sipush 999) 3 999 :: q_X11_quarter_102
def q_X11_quarter_111 : List zEnt := zE 111 (.iload 4) 2 :: [zE 113 .nop 0]
def q_X11_quarter_134 : List zEnt := zEa 134 (.goto 4) 3 138 :: []
def q_X11_quarter_133 : List zEnt := zEk 133 (.iconst 1) 1 1 :: q_X11_quarter_134
def q_X11_quarter_130 : List zEnt := zEa 130 (.if_icmp .ge 7) 3 137 :: q_X11_quarter_133
def q_X11_quarter_127 : List zEnt := zEk 127 (.sipush 999) 3 999 :: q_X11_quarter_130
def q_X11_quarter_126 : List zEnt := zE 126 .iaload 1 :: q_X11_quarter_127
def q_X11_quarter_121 : List zEnt := zE 121 (.aload_n 0) 1 :: zEf 122 (.getfield 76) 3 11 23 171 (2, 64, 0) :: zE 125 (.iload_n 3) 1 :: q_X11_quarter_126
def q_X11_quarter_120 : List zEnt := zE 120 .iaload 1 :: q_X11_quarter_121
def q_X11_quarter_114 : List zEnt := zE 114 (.aload_n 0) 1 :: zEf 115 (.getfield 76) 3 11 23 171 (2, 64, 0) :: zE 118 (.iload_n 3) 1 :: zE 119 .dup2 1 :: q_X11_quarter_120
def q_X11_quarter_113 : List zEnt := zE 113 .iastore 1 :: q_X11_quarter_114
def q_X11_quarter_137 : List zEnt := zEk 137 (.iconst 0) 1 0 :: [zE 138 .nop 0]
def q_X11_quarter_143 : List zEnt := zEa 143 (.goto (-95)) 3 48 :: []
def q_X11_quarter_140 : List zEnt := zEk 140 (.iinc 3 1) 3 1 :: q_X11_quarter_143
def q_X11_quarter_139 : List zEnt := zE 139 .iastore 1 :: q_X11_quarter_140
def q_X11_quarter_138 : List zEnt := zE 138 .iadd 1 :: q_X11_quarter_139
def q_X11_quarter_186 : List zEnt := zEa 186 (.goto 10) 3 196 :: []
def q_X11_quarter_185 : List zEnt := zE 185 .iaload 1 :: q_X11_quarter_186
def q_X11_quarter_180 : List zEnt := zE 180 (.aload_n 0) 1 :: zEf 181 (.getfield 7) 3 11 1 149 (2, 42, 0) :: zEk 184 (.iconst 4) 1 4 :: q_X11_quarter_185
def q_X11_quarter_177 : List zEnt := zEa 177 (.ifCond .ne 12) 3 189 :: q_X11_quarter_180
def q_X11_quarter_176 : List zEnt := zE 176 .iaload 1 :: q_X11_quarter_177
def q_X11_quarter_165 : List zEnt := zE 165 (.aload_n 0) 1 :: zEf 166 (.getfield 7) 3 11 1 149 (2, 42, 0) :: zEk 169 (.bipush 6) 2 6 :: zE 171 (.aload_n 0) 1 :: zEf 172 (.getfield 7) 3 11 1 149 (2, 42, 0) :: zEk 175 (.iconst 5) 1 5 :: q_X11_quarter_176
def q_X11_quarter_162 : List zEnt := zEa 162 (.if_icmp .ge 45) 3 207 :: q_X11_quarter_165
def q_X11_quarter_161 : List zEnt := zE 161 .iaload 1 :: q_X11_quarter_162
def q_X11_quarter_156 : List zEnt := zE 156 (.aload_n 0) 1 :: zEf 157 (.getfield 7) 3 11 1 149 (2, 42, 0) :: zEk 160 (.iconst 3) 1 3 :: q_X11_quarter_161
def q_X11_quarter_153 : List zEnt := zEc 153 (.invokevirtual 359) 3 129 2 153 0 :: q_X11_quarter_156
def q_X11_quarter_150 : List zEnt := zE 150 (.istore_n 2) 1 :: zE 151 (.aload_n 0) 1 :: zE 152 (.iload_n 2) 1 :: q_X11_quarter_153
def q_X11_quarter_147 : List zEnt := zEc 147 (.invokevirtual 356) 3 128 1 147 0 :: q_X11_quarter_150
def q_X11_quarter_146 : List zEnt := zE 146 (.aload_n 0) 1 :: q_X11_quarter_147
def q_X11_quarter_195 : List zEnt := zE 195 .iaload 1 :: [zE 196 .nop 0]
def q_X11_quarter_189 : List zEnt := zE 189 (.aload_n 0) 1 :: zEf 190 (.getfield 7) 3 11 1 149 (2, 42, 0) :: zEk 193 (.bipush 6) 2 6 :: q_X11_quarter_195
def q_X11_quarter_206 : List zEnt := zE 206 .iastore 1 :: [zE 207 .nop 0]
def q_X11_quarter_204 : List zEnt := zEk 204 (.iconst 1) 1 1 :: zE 205 .iadd 1 :: q_X11_quarter_206
def q_X11_quarter_203 : List zEnt := zE 203 .iaload 1 :: q_X11_quarter_204
def q_X11_quarter_197 : List zEnt := zE 197 (.aload_n 0) 1 :: zEf 198 (.getfield 7) 3 11 1 149 (2, 42, 0) :: zEk 201 (.iconst 5) 1 5 :: zE 202 .dup2 1 :: q_X11_quarter_203
def q_X11_quarter_196 : List zEnt := zE 196 .iastore 1 :: q_X11_quarter_197
def q_X11_quarter_207 : List zEnt := zEk 207 (.sipush 191) 3 191 :: zE 210 (.istore_n 3) 1 :: [zE 211 .nop 0]
def q_X11_quarter_232 : List zEnt := zEa 232 (.goto (-21)) 3 211 :: []
def q_X11_quarter_229 : List zEnt := zEk 229 (.iinc 3 (-1)) 3 (-1) :: q_X11_quarter_232
def q_X11_quarter_228 : List zEnt := zE 228 .iastore 1 :: q_X11_quarter_229
def q_X11_quarter_227 : List zEnt := zE 227 .iaload 1 :: q_X11_quarter_228
def q_X11_quarter_215 : List zEnt := zE 215 (.aload_n 0) 1 :: zEf 216 (.getfield 82) 3 11 25 173 (2, 66, 0) :: zE 219 (.iload_n 3) 1 :: zE 220 (.aload_n 0) 1 :: zEf 221 (.getfield 82) 3 11 25 173 (2, 66, 0) :: zE 224 (.iload_n 3) 1 :: zEk 225 (.iconst 1) 1 1 :: zE 226 .isub 1 :: q_X11_quarter_227
def q_X11_quarter_212 : List zEnt := zEa 212 (.ifCond .le 23) 3 235 :: q_X11_quarter_215
def q_X11_quarter_211 : List zEnt := zE 211 (.iload_n 3) 1 :: q_X11_quarter_212
def q_X11_quarter_264 : List zEnt := zEa 264 (.goto 4) 3 268 :: []
def q_X11_quarter_263 : List zEnt := zEk 263 (.iconst 1) 1 1 :: q_X11_quarter_264
def q_X11_quarter_260 : List zEnt := zEa 260 (.if_icmp .ge 7) 3 267 :: q_X11_quarter_263
def q_X11_quarter_257 : List zEnt := zEk 257 (.sipush 192) 3 192 :: q_X11_quarter_260
def q_X11_quarter_256 : List zEnt := zE 256 .iaload 1 :: q_X11_quarter_257
def q_X11_quarter_250 : List zEnt := zE 250 (.aload_n 0) 1 :: zEf 251 (.getfield 7) 3 11 1 149 (2, 42, 0) :: zEk 254 (.bipush 9) 2 9 :: q_X11_quarter_256
def q_X11_quarter_249 : List zEnt := zE 249 .iaload 1 :: q_X11_quarter_250
def q_X11_quarter_242 : List zEnt := zE 242 (.aload_n 0) 1 :: zEf 243 (.getfield 7) 3 11 1 149 (2, 42, 0) :: zEk 246 (.bipush 9) 2 9 :: zE 248 .dup2 1 :: q_X11_quarter_249
def q_X11_quarter_241 : List zEnt := zE 241 .iastore 1 :: q_X11_quarter_242
def q_X11_quarter_235 : List zEnt := zE 235 (.aload_n 0) 1 :: zEf 236 (.getfield 82) 3 11 25 173 (2, 66, 0) :: zEk 239 (.iconst 0) 1 0 :: zE 240 (.iload_n 2) 1 :: q_X11_quarter_241
def q_X11_quarter_267 : List zEnt := zEk 267 (.iconst 0) 1 0 :: [zE 268 .nop 0]
def q_X11_quarter_280 : List zEnt := zE 280 .return_ 1 :: []
def q_X11_quarter_279 : List zEnt := zE 279 .iastore 1 :: q_X11_quarter_280
def q_X11_quarter_277 : List zEnt := zEk 277 (.iconst 1) 1 1 :: zE 278 .iadd 1 :: q_X11_quarter_279
def q_X11_quarter_276 : List zEnt := zE 276 .iaload 1 :: q_X11_quarter_277
def q_X11_quarter_270 : List zEnt := zE 270 (.aload_n 0) 1 :: zEf 271 (.getfield 7) 3 11 1 149 (2, 42, 0) :: zEk 274 (.iconst 4) 1 4 :: zE 275 .dup2 1 :: q_X11_quarter_276
def q_X11_quarter_269 : List zEnt := zE 269 .iastore 1 :: q_X11_quarter_270
def q_X11_quarter_268 : List zEnt := zE 268 .iadd 1 :: q_X11_quarter_269
def b_X11_quarter : List (Nat × List zEnt) := [(0, q_X11_quarter_0), (12, q_X11_quarter_12), (36, q_X11_quarter_36), (42, q_X11_quarter_42), (48, q_X11_quarter_48), (79, q_X11_quarter_79), (80, q_X11_quarter_80), (97, q_X11_quarter_97), (111, q_X11_quarter_111), (113, q_X11_quarter_113), (137, q_X11_quarter_137), (138, q_X11_quarter_138), (146, q_X11_quarter_146), (189, q_X11_quarter_189), (196, q_X11_quarter_196), (207, q_X11_quarter_207), (211, q_X11_quarter_211), (235, q_X11_quarter_235), (267, q_X11_quarter_267), (268, q_X11_quarter_268)]
theorem bk_X11_quarter : zchB 180 b_X11_quarter = true := by decide +kernel
noncomputable def cc_X11_quarter {ρ : Type} : Nat → zH → List zAV → (zH → zAV → Option ρ) → Option ρ := fun n σ av q => if n = 128 then g_X11_upSet σ av q else if n = 177 then g_X11_lieDown σ av q else if n = 126 then g_X11_has σ av q else if n = 179 then g_X11_wakes σ av q else if n = 178 then g_X11_snores σ av q else if n = 129 then g_X11_menOf σ av q else none
theorem cs_X11_quarter {ρ : Type} {X : zX} (hX : zHX X) : zCS X (cc_X11_quarter (ρ := ρ)) := by
  intro n σ av q r h hv
  unfold cc_X11_quarter at h
  by_cases e_X11_upSet : n = 128
  · rw [if_pos e_X11_upSet] at h
    subst e_X11_upSet
    exact c_X11_upSet hX h hv
  rw [if_neg e_X11_upSet] at h
  by_cases e_X11_lieDown : n = 177
  · rw [if_pos e_X11_lieDown] at h
    subst e_X11_lieDown
    exact c_X11_lieDown hX h hv
  rw [if_neg e_X11_lieDown] at h
  by_cases e_X11_has : n = 126
  · rw [if_pos e_X11_has] at h
    subst e_X11_has
    exact c_X11_has hX h hv
  rw [if_neg e_X11_has] at h
  by_cases e_X11_wakes : n = 179
  · rw [if_pos e_X11_wakes] at h
    subst e_X11_wakes
    exact c_X11_wakes hX h hv
  rw [if_neg e_X11_wakes] at h
  by_cases e_X11_snores : n = 178
  · rw [if_pos e_X11_snores] at h
    subst e_X11_snores
    exact c_X11_snores hX h hv
  rw [if_neg e_X11_snores] at h
  by_cases e_X11_menOf : n = 129
  · rw [if_pos e_X11_menOf] at h
    subst e_X11_menOf
    exact c_X11_menOf hX h hv
  rw [if_neg e_X11_menOf] at h
  cases h
theorem cl_X11_quarter_X11_upSet {ρ : Type} (σ : zH) (av : List zAV) (q : zH → zAV → Option ρ) : cc_X11_quarter 128 σ av q = g_X11_upSet σ av q := rfl
theorem cl_X11_quarter_X11_lieDown {ρ : Type} (σ : zH) (av : List zAV) (q : zH → zAV → Option ρ) : cc_X11_quarter 177 σ av q = g_X11_lieDown σ av q := rfl
theorem cl_X11_quarter_X11_has {ρ : Type} (σ : zH) (av : List zAV) (q : zH → zAV → Option ρ) : cc_X11_quarter 126 σ av q = g_X11_has σ av q := rfl
theorem cl_X11_quarter_X11_wakes {ρ : Type} (σ : zH) (av : List zAV) (q : zH → zAV → Option ρ) : cc_X11_quarter 179 σ av q = g_X11_wakes σ av q := rfl
theorem cl_X11_quarter_X11_snores {ρ : Type} (σ : zH) (av : List zAV) (q : zH → zAV → Option ρ) : cc_X11_quarter 178 σ av q = g_X11_snores σ av q := rfl
theorem cl_X11_quarter_X11_menOf {ρ : Type} (σ : zH) (av : List zAV) (q : zH → zAV → Option ρ) : cc_X11_quarter 129 σ av q = g_X11_menOf σ av q := rfl
theorem hy_X11_quarter {ρ : Type} {X : zX} (hX : zHX X) : zHY X 180 (cc_X11_quarter (ρ := ρ)) := zHX.hY hX (cs_X11_quarter hX) (zmok_all 180 (by decide))
def gl_X11_quarter_12 {ρ : Type} (f : zH → Int32 → Int32 → Int32 → Option ρ) (σ : zH) (L st : List zAV) : Option ρ := match L, st with
  | [.inr (.inr (.inl (11, 0))), .inl x1, .inl x2, .inl x3, _], [] => f σ x1 x2 x3
  | _, _ => none
def gl_X11_quarter_42 {ρ : Type} (f : zH → Option ρ) (σ : zH) (L st : List zAV) : Option ρ := match L, st with
  | [.inr (.inr (.inl (11, 0))), _, _, _, _], [] => f σ
  | _, _ => none
def gl_X11_quarter_48 {ρ : Type} (f : zH → Int32 → Option ρ) (σ : zH) (L st : List zAV) : Option ρ := match L, st with
  | [.inr (.inr (.inl (11, 0))), _, _, .inl x3, _], [] => f σ x3
  | _, _ => none
def gl_X11_quarter_80 {ρ : Type} (f : zH → Int32 → Int32 → Int32 → Option ρ) (σ : zH) (L st : List zAV) : Option ρ := match L, st with
  | [.inr (.inr (.inl (11, 0))), _, _, .inl x3, _], [.inl xs1, .inl xs0] => f σ x3 xs0 xs1
  | _, _ => none
def gl_X11_quarter_113 {ρ : Type} (f : zH → Int32 → Int32 → Int32 → Option ρ) (σ : zH) (L st : List zAV) : Option ρ := match L, st with
  | [.inr (.inr (.inl (11, 0))), _, _, .inl x3, _], [.inl xs2, .inl xs1, .inr (.inr (.inl (63, 0)))] => f σ x3 xs1 xs2
  | _, _ => none
def gl_X11_quarter_138 {ρ : Type} (f : zH → Int32 → Int32 → Int32 → Int32 → Option ρ) (σ : zH) (L st : List zAV) : Option ρ := match L, st with
  | [.inr (.inr (.inl (11, 0))), _, _, .inl x3, _], [.inl xs3, .inl xs2, .inl xs1, .inr (.inr (.inl (64, 0)))] => f σ x3 xs1 xs2 xs3
  | _, _ => none
def gl_X11_quarter_146 {ρ : Type} (f : zH → Option ρ) (σ : zH) (L st : List zAV) : Option ρ := match L, st with
  | [.inr (.inr (.inl (11, 0))), _, _, _, _], [] => f σ
  | _, _ => none
def gl_X11_quarter_196 {ρ : Type} (f : zH → Int32 → Int32 → Int32 → Option ρ) (σ : zH) (L st : List zAV) : Option ρ := match L, st with
  | [.inr (.inr (.inl (11, 0))), _, .inl x2, _, _], [.inl xs2, .inl xs1, .inr (.inr (.inl (42, 0)))] => f σ x2 xs1 xs2
  | _, _ => none
def gl_X11_quarter_207 {ρ : Type} (f : zH → Int32 → Option ρ) (σ : zH) (L st : List zAV) : Option ρ := match L, st with
  | [.inr (.inr (.inl (11, 0))), _, .inl x2, _, _], [] => f σ x2
  | _, _ => none
def gl_X11_quarter_211 {ρ : Type} (f : zH → Int32 → Int32 → Option ρ) (σ : zH) (L st : List zAV) : Option ρ := match L, st with
  | [.inr (.inr (.inl (11, 0))), _, .inl x2, .inl x3, _], [] => f σ x2 x3
  | _, _ => none
def gl_X11_quarter_235 {ρ : Type} (f : zH → Int32 → Option ρ) (σ : zH) (L st : List zAV) : Option ρ := match L, st with
  | [.inr (.inr (.inl (11, 0))), _, .inl x2, _, _], [] => f σ x2
  | _, _ => none
def gl_X11_quarter_268 {ρ : Type} (f : zH → Int32 → Int32 → Int32 → Option ρ) (σ : zH) (L st : List zAV) : Option ρ := match L, st with
  | [.inr (.inr (.inl (11, 0))), _, _, _, _], [.inl xs3, .inl xs2, .inl xs1, .inr (.inr (.inl (42, 0)))] => f σ xs1 xs2 xs3
  | _, _ => none
theorem glr_X11_quarter_12 {ρ : Type} (f : zH → Int32 → Int32 → Int32 → Option ρ) (σ : zH) (x1 : Int32) (x2 : Int32) (x3 : Int32) (y4 : zAV) : gl_X11_quarter_12 f σ [vR 11 0, vI x1, vI x2, vI x3, y4] [] = f σ x1 x2 x3 := rfl
theorem glr_X11_quarter_42 {ρ : Type} (f : zH → Option ρ) (σ : zH)  (y1 : zAV) (y2 : zAV) (y3 : zAV) (y4 : zAV) : gl_X11_quarter_42 f σ [vR 11 0, y1, y2, y3, y4] [] = f σ := rfl
theorem glr_X11_quarter_48 {ρ : Type} (f : zH → Int32 → Option ρ) (σ : zH) (x3 : Int32) (y1 : zAV) (y2 : zAV) (y4 : zAV) : gl_X11_quarter_48 f σ [vR 11 0, y1, y2, vI x3, y4] [] = f σ x3 := rfl
theorem glr_X11_quarter_80 {ρ : Type} (f : zH → Int32 → Int32 → Int32 → Option ρ) (σ : zH) (x3 : Int32) (xs0 : Int32) (xs1 : Int32) (y1 : zAV) (y2 : zAV) (y4 : zAV) : gl_X11_quarter_80 f σ [vR 11 0, y1, y2, vI x3, y4] [vI xs1, vI xs0] = f σ x3 xs0 xs1 := rfl
theorem glr_X11_quarter_113 {ρ : Type} (f : zH → Int32 → Int32 → Int32 → Option ρ) (σ : zH) (x3 : Int32) (xs1 : Int32) (xs2 : Int32) (y1 : zAV) (y2 : zAV) (y4 : zAV) : gl_X11_quarter_113 f σ [vR 11 0, y1, y2, vI x3, y4] [vI xs2, vI xs1, vR 63 0] = f σ x3 xs1 xs2 := rfl
theorem glr_X11_quarter_138 {ρ : Type} (f : zH → Int32 → Int32 → Int32 → Int32 → Option ρ) (σ : zH) (x3 : Int32) (xs1 : Int32) (xs2 : Int32) (xs3 : Int32) (y1 : zAV) (y2 : zAV) (y4 : zAV) : gl_X11_quarter_138 f σ [vR 11 0, y1, y2, vI x3, y4] [vI xs3, vI xs2, vI xs1, vR 64 0] = f σ x3 xs1 xs2 xs3 := rfl
theorem glr_X11_quarter_146 {ρ : Type} (f : zH → Option ρ) (σ : zH)  (y1 : zAV) (y2 : zAV) (y3 : zAV) (y4 : zAV) : gl_X11_quarter_146 f σ [vR 11 0, y1, y2, y3, y4] [] = f σ := rfl
theorem glr_X11_quarter_196 {ρ : Type} (f : zH → Int32 → Int32 → Int32 → Option ρ) (σ : zH) (x2 : Int32) (xs1 : Int32) (xs2 : Int32) (y1 : zAV) (y3 : zAV) (y4 : zAV) : gl_X11_quarter_196 f σ [vR 11 0, y1, vI x2, y3, y4] [vI xs2, vI xs1, vR 42 0] = f σ x2 xs1 xs2 := rfl
theorem glr_X11_quarter_207 {ρ : Type} (f : zH → Int32 → Option ρ) (σ : zH) (x2 : Int32) (y1 : zAV) (y3 : zAV) (y4 : zAV) : gl_X11_quarter_207 f σ [vR 11 0, y1, vI x2, y3, y4] [] = f σ x2 := rfl
theorem glr_X11_quarter_211 {ρ : Type} (f : zH → Int32 → Int32 → Option ρ) (σ : zH) (x2 : Int32) (x3 : Int32) (y1 : zAV) (y4 : zAV) : gl_X11_quarter_211 f σ [vR 11 0, y1, vI x2, vI x3, y4] [] = f σ x2 x3 := rfl
theorem glr_X11_quarter_235 {ρ : Type} (f : zH → Int32 → Option ρ) (σ : zH) (x2 : Int32) (y1 : zAV) (y3 : zAV) (y4 : zAV) : gl_X11_quarter_235 f σ [vR 11 0, y1, vI x2, y3, y4] [] = f σ x2 := rfl
theorem glr_X11_quarter_268 {ρ : Type} (f : zH → Int32 → Int32 → Int32 → Option ρ) (σ : zH) (xs1 : Int32) (xs2 : Int32) (xs3 : Int32) (y1 : zAV) (y2 : zAV) (y3 : zAV) (y4 : zAV) : gl_X11_quarter_268 f σ [vR 11 0, y1, y2, y3, y4] [vI xs3, vI xs2, vI xs1, vR 42 0] = f σ xs1 xs2 xs3 := rfl
theorem t_X11_quarter_0 {G : Nat → zH → List zAV → List zAV → Option zH} (es : List zEnt) (σ : zH) (x1 : Int32) (y2 : zAV) (y3 : zAV) (y4 : zAV)  : zev cc_X11_quarter G 9 krV (zE 0 (.aload_n 0) 1 :: es) σ [vR 11 0, vI x1, y2, y3, y4] [] = zev cc_X11_quarter G 9 krV es σ [vR 11 0, vI x1, y2, y3, y4] [vR 11 0] := rfl
theorem t_X11_quarter_4 {G : Nat → zH → List zAV → List zAV → Option zH} (es : List zEnt) (σ : zH) (x1 : Int32) (xs0 : Int32) (y2 : zAV) (y3 : zAV) (y4 : zAV)  : zev cc_X11_quarter G 9 krV (zE 4 (.istore_n 2) 1 :: zE 5 (.aload_n 0) 1 :: zE 6 (.iload_n 1) 1 :: es) σ [vR 11 0, vI x1, y2, y3, y4] [vI xs0] = zev cc_X11_quarter G 9 krV es σ [vR 11 0, vI x1, vI xs0, y3, y4] [vI x1, vR 11 0] := rfl
theorem t_X11_quarter_10 {G : Nat → zH → List zAV → List zAV → Option zH} (es : List zEnt) (σ : zH) (x1 : Int32) (x2 : Int32) (y3 : zAV) (y4 : zAV) (w10 : Int32) : zev cc_X11_quarter G 9 krV (zEk 10 (.iconst 0) 1 w10 :: zE 11 (.istore_n 3) 1 :: es) σ [vR 11 0, vI x1, vI x2, y3, y4] [] = zev cc_X11_quarter G 9 krV es σ [vR 11 0, vI x1, vI x2, vI w10, y4] [] := rfl
theorem t_X11_quarter_12 {G : Nat → zH → List zAV → List zAV → Option zH} (es : List zEnt) (σ : zH) (x1 : Int32) (x2 : Int32) (x3 : Int32) (y4 : zAV) (w17 : Int32) : zev cc_X11_quarter G 9 krV (zE 12 (.iload_n 3) 1 :: zE 13 (.aload_n 0) 1 :: zEf 14 (.getfield 7) 3 11 1 149 (2, 42, 0) :: zEk 17 (.iconst 0) 1 w17 :: es) σ [vR 11 0, vI x1, vI x2, vI x3, y4] [] = zev cc_X11_quarter G 9 krV es σ [vR 11 0, vI x1, vI x2, vI x3, y4] [vI w17, vR 42 0, vI x3] := rfl
theorem t_X11_quarter_22 {G : Nat → zH → List zAV → List zAV → Option zH} (es : List zEnt) (σ : zH) (x1 : Int32) (x2 : Int32) (x3 : Int32) (y4 : zAV)  : zev cc_X11_quarter G 9 krV (zE 22 (.iload_n 2) 1 :: zE 23 (.iload_n 3) 1 :: es) σ [vR 11 0, vI x1, vI x2, vI x3, y4] [] = zev cc_X11_quarter G 9 krV es σ [vR 11 0, vI x1, vI x2, vI x3, y4] [vI x3, vI x2] := rfl
theorem t_X11_quarter_30 {G : Nat → zH → List zAV → List zAV → Option zH} (es : List zEnt) (σ : zH) (x1 : Int32) (x2 : Int32) (x3 : Int32) (y4 : zAV)  : zev cc_X11_quarter G 9 krV (zE 30 (.aload_n 0) 1 :: zE 31 (.iload_n 1) 1 :: zE 32 (.iload_n 3) 1 :: es) σ [vR 11 0, vI x1, vI x2, vI x3, y4] [] = zev cc_X11_quarter G 9 krV es σ [vR 11 0, vI x1, vI x2, vI x3, y4] [vI x3, vI x1, vR 11 0] := rfl
theorem t_X11_quarter_36 {G : Nat → zH → List zAV → List zAV → Option zH} (es : List zEnt) (σ : zH) (x1 : Int32) (x2 : Int32) (x3 : Int32) (y4 : zAV) (w36 : Int32) : zev cc_X11_quarter G 9 krV (zEk 36 (.iinc 3 1) 3 w36 :: es) σ [vR 11 0, vI x1, vI x2, vI x3, y4] [] = zev cc_X11_quarter G 9 krV es σ [vR 11 0, vI x1, vI x2, vI (x3 + w36), y4] [] := rfl
theorem t_X11_quarter_42 {G : Nat → zH → List zAV → List zAV → Option zH} (es : List zEnt) (σ : zH)  (y1 : zAV) (y2 : zAV) (y3 : zAV) (y4 : zAV)  : zev cc_X11_quarter G 9 krV (zE 42 (.aload_n 0) 1 :: es) σ [vR 11 0, y1, y2, y3, y4] [] = zev cc_X11_quarter G 9 krV es σ [vR 11 0, y1, y2, y3, y4] [vR 11 0] := rfl
theorem t_X11_quarter_46 {G : Nat → zH → List zAV → List zAV → Option zH} (es : List zEnt) (σ : zH)  (y1 : zAV) (y2 : zAV) (y3 : zAV) (y4 : zAV) (w46 : Int32) : zev cc_X11_quarter G 9 krV (zEk 46 (.iconst 0) 1 w46 :: zE 47 (.istore_n 3) 1 :: es) σ [vR 11 0, y1, y2, y3, y4] [] = zev cc_X11_quarter G 9 krV es σ [vR 11 0, y1, (zkp y2), vI w46, y4] [] := rfl
theorem t_X11_quarter_48 {G : Nat → zH → List zAV → List zAV → Option zH} (es : List zEnt) (σ : zH) (x3 : Int32) (y1 : zAV) (y2 : zAV) (y4 : zAV) (w53 : Int32) : zev cc_X11_quarter G 9 krV (zE 48 (.iload_n 3) 1 :: zE 49 (.aload_n 0) 1 :: zEf 50 (.getfield 7) 3 11 1 149 (2, 42, 0) :: zEk 53 (.iconst 0) 1 w53 :: es) σ [vR 11 0, y1, y2, vI x3, y4] [] = zev cc_X11_quarter G 9 krV es σ [vR 11 0, y1, y2, vI x3, y4] [vI w53, vR 42 0, vI x3] := rfl
theorem t_X11_quarter_58 {G : Nat → zH → List zAV → List zAV → Option zH} (es : List zEnt) (σ : zH) (x3 : Int32) (y1 : zAV) (y2 : zAV) (y4 : zAV)  : zev cc_X11_quarter G 9 krV (zE 58 (.aload_n 0) 1 :: zEf 59 (.getfield 73) 3 11 22 170 (2, 63, 0) :: zE 62 (.iload_n 3) 1 :: es) σ [vR 11 0, y1, y2, vI x3, y4] [] = zev cc_X11_quarter G 9 krV es σ [vR 11 0, y1, y2, vI x3, y4] [vI x3, vR 63 0] := rfl
theorem t_X11_quarter_64 {G : Nat → zH → List zAV → List zAV → Option zH} (es : List zEnt) (σ : zH) (x3 : Int32) (xs0 : Int32) (y1 : zAV) (y2 : zAV) (y4 : zAV)  : zev cc_X11_quarter G 9 krV (zE 64 (.aload_n 0) 1 :: zEf 65 (.getfield 70) 3 11 21 169 (2, 62, 0) :: zE 68 (.iload_n 3) 1 :: es) σ [vR 11 0, y1, y2, vI x3, y4] [vI xs0] = zev cc_X11_quarter G 9 krV es σ [vR 11 0, y1, y2, vI x3, y4] [vI x3, vR 62 0, vI xs0] := rfl
theorem t_X11_quarter_70 {G : Nat → zH → List zAV → List zAV → Option zH} (es : List zEnt) (σ : zH) (x3 : Int32) (xs0 : Int32) (xs1 : Int32) (y1 : zAV) (y2 : zAV) (y4 : zAV) (w70 : Int32) : zev cc_X11_quarter G 9 krV (zEk 70 (.iconst 1) 1 w70 :: es) σ [vR 11 0, y1, y2, vI x3, y4] [vI xs1, vI xs0] = zev cc_X11_quarter G 9 krV es σ [vR 11 0, y1, y2, vI x3, y4] [vI w70, vI xs1, vI xs0] := rfl
theorem t_X11_quarter_74 {G : Nat → zH → List zAV → List zAV → Option zH} (es : List zEnt) (σ : zH) (x3 : Int32) (xs0 : Int32) (y1 : zAV) (y2 : zAV) (y4 : zAV) (w74 : Int32) : zev cc_X11_quarter G 9 krV (zEk 74 (.bipush (-2)) 2 w74 :: es) σ [vR 11 0, y1, y2, vI x3, y4] [vI xs0] = zev cc_X11_quarter G 9 krV es σ [vR 11 0, y1, y2, vI x3, y4] [vI w74, vI xs0] := rfl
theorem t_X11_quarter_79 {G : Nat → zH → List zAV → List zAV → Option zH} (es : List zEnt) (σ : zH) (x3 : Int32) (xs0 : Int32) (y1 : zAV) (y2 : zAV) (y4 : zAV) (w79 : Int32) : zev cc_X11_quarter G 9 krV (zEk 79 (.iconst 1) 1 w79 :: es) σ [vR 11 0, y1, y2, vI x3, y4] [vI xs0] = zev cc_X11_quarter G 9 krV es σ [vR 11 0, y1, y2, vI x3, y4] [vI w79, vI xs0] := rfl
theorem t_X11_quarter_80 {G : Nat → zH → List zAV → List zAV → Option zH} (es : List zEnt) (σ : zH) (x3 : Int32) (xs0 : Int32) (xs1 : Int32) (y1 : zAV) (y2 : zAV) (y4 : zAV)  : zev cc_X11_quarter G 9 krV (zE 80 .iadd 1 :: zE 81 (.istore 4) 2 :: zE 83 (.aload_n 0) 1 :: zEf 84 (.getfield 73) 3 11 22 170 (2, 63, 0) :: zE 87 (.iload_n 3) 1 :: zE 88 (.iload 4) 2 :: es) σ [vR 11 0, y1, y2, vI x3, y4] [vI xs1, vI xs0] = zev cc_X11_quarter G 9 krV es σ [vR 11 0, y1, y2, vI x3, vI (xs0 + xs1)] [vI (xs0 + xs1), vI x3, vR 63 0] := rfl
theorem t_X11_quarter_93 {G : Nat → zH → List zAV → List zAV → Option zH} (es : List zEnt) (σ : zH) (x3 : Int32) (xs1 : Int32) (y1 : zAV) (y2 : zAV) (y4 : zAV) (w93 : Int32) : zev cc_X11_quarter G 9 krV (zEk 93 (.iconst 0) 1 w93 :: es) σ [vR 11 0, y1, y2, vI x3, y4] [vI xs1, vR 63 0] = zev cc_X11_quarter G 9 krV es σ [vR 11 0, y1, y2, vI x3, y4] [vI w93, vI xs1, vR 63 0] := rfl
theorem t_X11_quarter_97 {G : Nat → zH → List zAV → List zAV → Option zH} (es : List zEnt) (σ : zH) (x3 : Int32) (x4 : Int32) (xs1 : Int32) (y1 : zAV) (y2 : zAV) (w99 : Int32) : zev cc_X11_quarter G 9 krV (zE 97 (.iload 4) 2 :: zEk 99 (.sipush 999) 3 w99 :: es) σ [vR 11 0, y1, y2, vI x3, vI x4] [vI xs1, vR 63 0] = zev cc_X11_quarter G 9 krV es σ [vR 11 0, y1, y2, vI x3, vI x4] [vI w99, vI x4, vI xs1, vR 63 0] := rfl
theorem t_X11_quarter_105 {G : Nat → zH → List zAV → List zAV → Option zH} (es : List zEnt) (σ : zH) (x3 : Int32) (xs1 : Int32) (y1 : zAV) (y2 : zAV) (y4 : zAV) (w105 : Int32) : zev cc_X11_quarter G 9 krV (zEk 105 (.sipush 999) 3 w105 :: es) σ [vR 11 0, y1, y2, vI x3, y4] [vI xs1, vR 63 0] = zev cc_X11_quarter G 9 krV es σ [vR 11 0, y1, y2, vI x3, y4] [vI w105, vI xs1, vR 63 0] := rfl
theorem t_X11_quarter_111 {G : Nat → zH → List zAV → List zAV → Option zH} (es : List zEnt) (σ : zH) (x3 : Int32) (x4 : Int32) (xs1 : Int32) (y1 : zAV) (y2 : zAV)  : zev cc_X11_quarter G 9 krV (zE 111 (.iload 4) 2 :: es) σ [vR 11 0, y1, y2, vI x3, vI x4] [vI xs1, vR 63 0] = zev cc_X11_quarter G 9 krV es σ [vR 11 0, y1, y2, vI x3, vI x4] [vI x4, vI xs1, vR 63 0] := rfl
theorem t_X11_quarter_114 {G : Nat → zH → List zAV → List zAV → Option zH} (es : List zEnt) (σ : zH) (x3 : Int32) (y1 : zAV) (y2 : zAV) (y4 : zAV)  : zev cc_X11_quarter G 9 krV (zE 114 (.aload_n 0) 1 :: zEf 115 (.getfield 76) 3 11 23 171 (2, 64, 0) :: zE 118 (.iload_n 3) 1 :: zE 119 .dup2 1 :: es) σ [vR 11 0, y1, y2, vI x3, y4] [] = zev cc_X11_quarter G 9 krV es σ [vR 11 0, y1, y2, vI x3, y4] [vI x3, vR 64 0, vI x3, vR 64 0] := rfl
theorem t_X11_quarter_121 {G : Nat → zH → List zAV → List zAV → Option zH} (es : List zEnt) (σ : zH) (x3 : Int32) (xs1 : Int32) (xs2 : Int32) (y1 : zAV) (y2 : zAV) (y4 : zAV)  : zev cc_X11_quarter G 9 krV (zE 121 (.aload_n 0) 1 :: zEf 122 (.getfield 76) 3 11 23 171 (2, 64, 0) :: zE 125 (.iload_n 3) 1 :: es) σ [vR 11 0, y1, y2, vI x3, y4] [vI xs2, vI xs1, vR 64 0] = zev cc_X11_quarter G 9 krV es σ [vR 11 0, y1, y2, vI x3, y4] [vI x3, vR 64 0, vI xs2, vI xs1, vR 64 0] := rfl
theorem t_X11_quarter_127 {G : Nat → zH → List zAV → List zAV → Option zH} (es : List zEnt) (σ : zH) (x3 : Int32) (xs1 : Int32) (xs2 : Int32) (xs3 : Int32) (y1 : zAV) (y2 : zAV) (y4 : zAV) (w127 : Int32) : zev cc_X11_quarter G 9 krV (zEk 127 (.sipush 999) 3 w127 :: es) σ [vR 11 0, y1, y2, vI x3, y4] [vI xs3, vI xs2, vI xs1, vR 64 0] = zev cc_X11_quarter G 9 krV es σ [vR 11 0, y1, y2, vI x3, y4] [vI w127, vI xs3, vI xs2, vI xs1, vR 64 0] := rfl
theorem t_X11_quarter_133 {G : Nat → zH → List zAV → List zAV → Option zH} (es : List zEnt) (σ : zH) (x3 : Int32) (xs1 : Int32) (xs2 : Int32) (y1 : zAV) (y2 : zAV) (y4 : zAV) (w133 : Int32) : zev cc_X11_quarter G 9 krV (zEk 133 (.iconst 1) 1 w133 :: es) σ [vR 11 0, y1, y2, vI x3, y4] [vI xs2, vI xs1, vR 64 0] = zev cc_X11_quarter G 9 krV es σ [vR 11 0, y1, y2, vI x3, y4] [vI w133, vI xs2, vI xs1, vR 64 0] := rfl
theorem t_X11_quarter_137 {G : Nat → zH → List zAV → List zAV → Option zH} (es : List zEnt) (σ : zH) (x3 : Int32) (xs1 : Int32) (xs2 : Int32) (y1 : zAV) (y2 : zAV) (y4 : zAV) (w137 : Int32) : zev cc_X11_quarter G 9 krV (zEk 137 (.iconst 0) 1 w137 :: es) σ [vR 11 0, y1, y2, vI x3, y4] [vI xs2, vI xs1, vR 64 0] = zev cc_X11_quarter G 9 krV es σ [vR 11 0, y1, y2, vI x3, y4] [vI w137, vI xs2, vI xs1, vR 64 0] := rfl
theorem t_X11_quarter_138 {G : Nat → zH → List zAV → List zAV → Option zH} (es : List zEnt) (σ : zH) (x3 : Int32) (xs1 : Int32) (xs2 : Int32) (xs3 : Int32) (y1 : zAV) (y2 : zAV) (y4 : zAV)  : zev cc_X11_quarter G 9 krV (zE 138 .iadd 1 :: es) σ [vR 11 0, y1, y2, vI x3, y4] [vI xs3, vI xs2, vI xs1, vR 64 0] = zev cc_X11_quarter G 9 krV es σ [vR 11 0, y1, y2, vI x3, y4] [vI (xs2 + xs3), vI xs1, vR 64 0] := rfl
theorem t_X11_quarter_140 {G : Nat → zH → List zAV → List zAV → Option zH} (es : List zEnt) (σ : zH) (x3 : Int32) (y1 : zAV) (y2 : zAV) (y4 : zAV) (w140 : Int32) : zev cc_X11_quarter G 9 krV (zEk 140 (.iinc 3 1) 3 w140 :: es) σ [vR 11 0, y1, y2, vI x3, y4] [] = zev cc_X11_quarter G 9 krV es σ [vR 11 0, y1, (zkp y2), vI (x3 + w140), y4] [] := rfl
theorem t_X11_quarter_146 {G : Nat → zH → List zAV → List zAV → Option zH} (es : List zEnt) (σ : zH)  (y1 : zAV) (y2 : zAV) (y3 : zAV) (y4 : zAV)  : zev cc_X11_quarter G 9 krV (zE 146 (.aload_n 0) 1 :: es) σ [vR 11 0, y1, y2, y3, y4] [] = zev cc_X11_quarter G 9 krV es σ [vR 11 0, y1, y2, y3, y4] [vR 11 0] := rfl
theorem t_X11_quarter_150 {G : Nat → zH → List zAV → List zAV → Option zH} (es : List zEnt) (σ : zH) (xs0 : Int32) (y1 : zAV) (y2 : zAV) (y3 : zAV) (y4 : zAV)  : zev cc_X11_quarter G 9 krV (zE 150 (.istore_n 2) 1 :: zE 151 (.aload_n 0) 1 :: zE 152 (.iload_n 2) 1 :: es) σ [vR 11 0, y1, y2, y3, y4] [vI xs0] = zev cc_X11_quarter G 9 krV es σ [vR 11 0, (zkp y1), vI xs0, y3, y4] [vI xs0, vR 11 0] := rfl
theorem t_X11_quarter_156 {G : Nat → zH → List zAV → List zAV → Option zH} (es : List zEnt) (σ : zH) (x2 : Int32) (xs0 : Int32) (y1 : zAV) (y3 : zAV) (y4 : zAV) (w160 : Int32) : zev cc_X11_quarter G 9 krV (zE 156 (.aload_n 0) 1 :: zEf 157 (.getfield 7) 3 11 1 149 (2, 42, 0) :: zEk 160 (.iconst 3) 1 w160 :: es) σ [vR 11 0, y1, vI x2, y3, y4] [vI xs0] = zev cc_X11_quarter G 9 krV es σ [vR 11 0, y1, vI x2, y3, y4] [vI w160, vR 42 0, vI xs0] := rfl
theorem t_X11_quarter_165 {G : Nat → zH → List zAV → List zAV → Option zH} (es : List zEnt) (σ : zH) (x2 : Int32) (y1 : zAV) (y3 : zAV) (y4 : zAV) (w169 : Int32) (w175 : Int32) : zev cc_X11_quarter G 9 krV (zE 165 (.aload_n 0) 1 :: zEf 166 (.getfield 7) 3 11 1 149 (2, 42, 0) :: zEk 169 (.bipush 6) 2 w169 :: zE 171 (.aload_n 0) 1 :: zEf 172 (.getfield 7) 3 11 1 149 (2, 42, 0) :: zEk 175 (.iconst 5) 1 w175 :: es) σ [vR 11 0, y1, vI x2, y3, y4] [] = zev cc_X11_quarter G 9 krV es σ [vR 11 0, y1, vI x2, y3, y4] [vI w175, vR 42 0, vI w169, vR 42 0] := rfl
theorem t_X11_quarter_180 {G : Nat → zH → List zAV → List zAV → Option zH} (es : List zEnt) (σ : zH) (x2 : Int32) (xs1 : Int32) (y1 : zAV) (y3 : zAV) (y4 : zAV) (w184 : Int32) : zev cc_X11_quarter G 9 krV (zE 180 (.aload_n 0) 1 :: zEf 181 (.getfield 7) 3 11 1 149 (2, 42, 0) :: zEk 184 (.iconst 4) 1 w184 :: es) σ [vR 11 0, y1, vI x2, y3, y4] [vI xs1, vR 42 0] = zev cc_X11_quarter G 9 krV es σ [vR 11 0, y1, vI x2, y3, y4] [vI w184, vR 42 0, vI xs1, vR 42 0] := rfl
theorem t_X11_quarter_189 {G : Nat → zH → List zAV → List zAV → Option zH} (es : List zEnt) (σ : zH) (x2 : Int32) (xs1 : Int32) (y1 : zAV) (y3 : zAV) (y4 : zAV) (w193 : Int32) : zev cc_X11_quarter G 9 krV (zE 189 (.aload_n 0) 1 :: zEf 190 (.getfield 7) 3 11 1 149 (2, 42, 0) :: zEk 193 (.bipush 6) 2 w193 :: es) σ [vR 11 0, y1, vI x2, y3, y4] [vI xs1, vR 42 0] = zev cc_X11_quarter G 9 krV es σ [vR 11 0, y1, vI x2, y3, y4] [vI w193, vR 42 0, vI xs1, vR 42 0] := rfl
theorem t_X11_quarter_197 {G : Nat → zH → List zAV → List zAV → Option zH} (es : List zEnt) (σ : zH) (x2 : Int32) (y1 : zAV) (y3 : zAV) (y4 : zAV) (w201 : Int32) : zev cc_X11_quarter G 9 krV (zE 197 (.aload_n 0) 1 :: zEf 198 (.getfield 7) 3 11 1 149 (2, 42, 0) :: zEk 201 (.iconst 5) 1 w201 :: zE 202 .dup2 1 :: es) σ [vR 11 0, y1, vI x2, y3, y4] [] = zev cc_X11_quarter G 9 krV es σ [vR 11 0, y1, vI x2, y3, y4] [vI w201, vR 42 0, vI w201, vR 42 0] := rfl
theorem t_X11_quarter_204 {G : Nat → zH → List zAV → List zAV → Option zH} (es : List zEnt) (σ : zH) (x2 : Int32) (xs1 : Int32) (xs2 : Int32) (y1 : zAV) (y3 : zAV) (y4 : zAV) (w204 : Int32) : zev cc_X11_quarter G 9 krV (zEk 204 (.iconst 1) 1 w204 :: zE 205 .iadd 1 :: es) σ [vR 11 0, y1, vI x2, y3, y4] [vI xs2, vI xs1, vR 42 0] = zev cc_X11_quarter G 9 krV es σ [vR 11 0, y1, vI x2, y3, y4] [vI (xs2 + w204), vI xs1, vR 42 0] := rfl
theorem t_X11_quarter_207 {G : Nat → zH → List zAV → List zAV → Option zH} (es : List zEnt) (σ : zH) (x2 : Int32) (y1 : zAV) (y3 : zAV) (y4 : zAV) (w207 : Int32) : zev cc_X11_quarter G 9 krV (zEk 207 (.sipush 191) 3 w207 :: zE 210 (.istore_n 3) 1 :: es) σ [vR 11 0, y1, vI x2, y3, y4] [] = zev cc_X11_quarter G 9 krV es σ [vR 11 0, y1, vI x2, vI w207, y4] [] := rfl
theorem t_X11_quarter_211 {G : Nat → zH → List zAV → List zAV → Option zH} (es : List zEnt) (σ : zH) (x2 : Int32) (x3 : Int32) (y1 : zAV) (y4 : zAV)  : zev cc_X11_quarter G 9 krV (zE 211 (.iload_n 3) 1 :: es) σ [vR 11 0, y1, vI x2, vI x3, y4] [] = zev cc_X11_quarter G 9 krV es σ [vR 11 0, y1, vI x2, vI x3, y4] [vI x3] := rfl
theorem t_X11_quarter_215 {G : Nat → zH → List zAV → List zAV → Option zH} (es : List zEnt) (σ : zH) (x2 : Int32) (x3 : Int32) (y1 : zAV) (y4 : zAV) (w225 : Int32) : zev cc_X11_quarter G 9 krV (zE 215 (.aload_n 0) 1 :: zEf 216 (.getfield 82) 3 11 25 173 (2, 66, 0) :: zE 219 (.iload_n 3) 1 :: zE 220 (.aload_n 0) 1 :: zEf 221 (.getfield 82) 3 11 25 173 (2, 66, 0) :: zE 224 (.iload_n 3) 1 :: zEk 225 (.iconst 1) 1 w225 :: zE 226 .isub 1 :: es) σ [vR 11 0, y1, vI x2, vI x3, y4] [] = zev cc_X11_quarter G 9 krV es σ [vR 11 0, y1, vI x2, vI x3, y4] [vI (x3 - w225), vR 66 0, vI x3, vR 66 0] := rfl
theorem t_X11_quarter_229 {G : Nat → zH → List zAV → List zAV → Option zH} (es : List zEnt) (σ : zH) (x2 : Int32) (x3 : Int32) (y1 : zAV) (y4 : zAV) (w229 : Int32) : zev cc_X11_quarter G 9 krV (zEk 229 (.iinc 3 (-1)) 3 w229 :: es) σ [vR 11 0, y1, vI x2, vI x3, y4] [] = zev cc_X11_quarter G 9 krV es σ [vR 11 0, y1, vI x2, vI (x3 + w229), y4] [] := rfl
theorem t_X11_quarter_235 {G : Nat → zH → List zAV → List zAV → Option zH} (es : List zEnt) (σ : zH) (x2 : Int32) (y1 : zAV) (y3 : zAV) (y4 : zAV) (w239 : Int32) : zev cc_X11_quarter G 9 krV (zE 235 (.aload_n 0) 1 :: zEf 236 (.getfield 82) 3 11 25 173 (2, 66, 0) :: zEk 239 (.iconst 0) 1 w239 :: zE 240 (.iload_n 2) 1 :: es) σ [vR 11 0, y1, vI x2, y3, y4] [] = zev cc_X11_quarter G 9 krV es σ [vR 11 0, y1, vI x2, y3, y4] [vI x2, vI w239, vR 66 0] := rfl
theorem t_X11_quarter_242 {G : Nat → zH → List zAV → List zAV → Option zH} (es : List zEnt) (σ : zH)  (y1 : zAV) (y2 : zAV) (y3 : zAV) (y4 : zAV) (w246 : Int32) : zev cc_X11_quarter G 9 krV (zE 242 (.aload_n 0) 1 :: zEf 243 (.getfield 7) 3 11 1 149 (2, 42, 0) :: zEk 246 (.bipush 9) 2 w246 :: zE 248 .dup2 1 :: es) σ [vR 11 0, y1, y2, y3, y4] [] = zev cc_X11_quarter G 9 krV es σ [vR 11 0, y1, y2, y3, y4] [vI w246, vR 42 0, vI w246, vR 42 0] := rfl
theorem t_X11_quarter_250 {G : Nat → zH → List zAV → List zAV → Option zH} (es : List zEnt) (σ : zH) (xs1 : Int32) (xs2 : Int32) (y1 : zAV) (y2 : zAV) (y3 : zAV) (y4 : zAV) (w254 : Int32) : zev cc_X11_quarter G 9 krV (zE 250 (.aload_n 0) 1 :: zEf 251 (.getfield 7) 3 11 1 149 (2, 42, 0) :: zEk 254 (.bipush 9) 2 w254 :: es) σ [vR 11 0, y1, y2, y3, y4] [vI xs2, vI xs1, vR 42 0] = zev cc_X11_quarter G 9 krV es σ [vR 11 0, y1, y2, y3, y4] [vI w254, vR 42 0, vI xs2, vI xs1, vR 42 0] := rfl
theorem t_X11_quarter_257 {G : Nat → zH → List zAV → List zAV → Option zH} (es : List zEnt) (σ : zH) (xs1 : Int32) (xs2 : Int32) (xs3 : Int32) (y1 : zAV) (y2 : zAV) (y3 : zAV) (y4 : zAV) (w257 : Int32) : zev cc_X11_quarter G 9 krV (zEk 257 (.sipush 192) 3 w257 :: es) σ [vR 11 0, y1, y2, y3, y4] [vI xs3, vI xs2, vI xs1, vR 42 0] = zev cc_X11_quarter G 9 krV es σ [vR 11 0, y1, y2, y3, y4] [vI w257, vI xs3, vI xs2, vI xs1, vR 42 0] := rfl
theorem t_X11_quarter_263 {G : Nat → zH → List zAV → List zAV → Option zH} (es : List zEnt) (σ : zH) (xs1 : Int32) (xs2 : Int32) (y1 : zAV) (y2 : zAV) (y3 : zAV) (y4 : zAV) (w263 : Int32) : zev cc_X11_quarter G 9 krV (zEk 263 (.iconst 1) 1 w263 :: es) σ [vR 11 0, y1, y2, y3, y4] [vI xs2, vI xs1, vR 42 0] = zev cc_X11_quarter G 9 krV es σ [vR 11 0, y1, y2, y3, y4] [vI w263, vI xs2, vI xs1, vR 42 0] := rfl
theorem t_X11_quarter_267 {G : Nat → zH → List zAV → List zAV → Option zH} (es : List zEnt) (σ : zH) (xs1 : Int32) (xs2 : Int32) (y1 : zAV) (y2 : zAV) (y3 : zAV) (y4 : zAV) (w267 : Int32) : zev cc_X11_quarter G 9 krV (zEk 267 (.iconst 0) 1 w267 :: es) σ [vR 11 0, y1, y2, y3, y4] [vI xs2, vI xs1, vR 42 0] = zev cc_X11_quarter G 9 krV es σ [vR 11 0, y1, y2, y3, y4] [vI w267, vI xs2, vI xs1, vR 42 0] := rfl
theorem t_X11_quarter_268 {G : Nat → zH → List zAV → List zAV → Option zH} (es : List zEnt) (σ : zH) (xs1 : Int32) (xs2 : Int32) (xs3 : Int32) (y1 : zAV) (y2 : zAV) (y3 : zAV) (y4 : zAV)  : zev cc_X11_quarter G 9 krV (zE 268 .iadd 1 :: es) σ [vR 11 0, y1, y2, y3, y4] [vI xs3, vI xs2, vI xs1, vR 42 0] = zev cc_X11_quarter G 9 krV es σ [vR 11 0, y1, y2, y3, y4] [vI (xs2 + xs3), vI xs1, vR 42 0] := rfl
theorem t_X11_quarter_270 {G : Nat → zH → List zAV → List zAV → Option zH} (es : List zEnt) (σ : zH)  (y1 : zAV) (y2 : zAV) (y3 : zAV) (y4 : zAV) (w274 : Int32) : zev cc_X11_quarter G 9 krV (zE 270 (.aload_n 0) 1 :: zEf 271 (.getfield 7) 3 11 1 149 (2, 42, 0) :: zEk 274 (.iconst 4) 1 w274 :: zE 275 .dup2 1 :: es) σ [vR 11 0, y1, y2, y3, y4] [] = zev cc_X11_quarter G 9 krV es σ [vR 11 0, y1, y2, y3, y4] [vI w274, vR 42 0, vI w274, vR 42 0] := rfl
theorem t_X11_quarter_277 {G : Nat → zH → List zAV → List zAV → Option zH} (es : List zEnt) (σ : zH) (xs1 : Int32) (xs2 : Int32) (y0 : zAV) (y1 : zAV) (y2 : zAV) (y3 : zAV) (y4 : zAV) (w277 : Int32) : zev cc_X11_quarter G 9 krV (zEk 277 (.iconst 1) 1 w277 :: zE 278 .iadd 1 :: es) σ [y0, y1, y2, y3, y4] [vI xs2, vI xs1, vR 42 0] = zev cc_X11_quarter G 9 krV es σ [y0, y1, y2, y3, y4] [vI (xs2 + w277), vI xs1, vR 42 0] := rfl
noncomputable def k_X11_quarter_12 (c42 : zH → Option zH) : Nat → zH → Int32 → Int32 → Int32 → Option zH
  | 0, _, _, _, _ => none
  | n + 1, σ, x1, x2, x3 =>
    if x3 < (σ.1 42 0 0) then
      (d_X11_has σ x2 x3).bind fun p1 =>
      if p1.2 = 0 then
        (d_X11_wakes p1.1 x1 x3).bind fun σ2 =>
        (k_X11_quarter_12 c42 n) σ2 x1 x2 (x3 + (1 : Int32))
      else
        (k_X11_quarter_12 c42 n) p1.1 x1 x2 (x3 + (1 : Int32))
    else
      c42 σ
theorem e_X11_quarter_12 (c42 : zH → Option zH) (n : Nat) (σ : zH) (x1 : Int32) (x2 : Int32) (x3 : Int32) (y4 : zAV) : k_X11_quarter_12 c42 (n + 1) σ x1 x2 x3 = zin cc_X11_quarter (fun t => if t = 12 then some (gl_X11_quarter_12 (k_X11_quarter_12 c42 n)) else if t = 42 then some (gl_X11_quarter_42 c42) else none) 9 krV b_X11_quarter 12 σ [vR 11 0, vI x1, vI x2, vI x3, y4] [] := by
  rw [k_X11_quarter_12]
  refine Eq.symm ((zin_b (es := q_X11_quarter_12) rfl).trans ?_)
  refine (t_X11_quarter_12 _ _ _ _ _ _ _).trans ?_
  refine ((x_iald (N := 11) rfl rfl).trans (ix_l 0 (by decide +kernel))).trans ?_
  refine x_icmp.trans (pif_ge ?_ ?_)
  · exact (zrun_c rfl).trans (glr_X11_quarter_42 _ _ _ _ _ _)
  · refine (t_X11_quarter_22 _ _ _ _ _ _).trans ?_
    refine (x_callS rfl rfl rfl rfl).trans ((cl_X11_quarter_X11_has _ _ _).trans ((gr_X11_has _ _ _ _).trans (pbd fun _ => ?_)))
    refine x_if.trans (pif_ne ?_ ?_)
    · refine (zrun_b (es := q_X11_quarter_36) rfl rfl).trans ?_
      refine (t_X11_quarter_36 _ _ _ _ _ _ _).trans ?_
      refine x_goto.trans ?_
      exact (zrun_c rfl).trans (glr_X11_quarter_12 _ _ _ _ _ _)
    · refine (t_X11_quarter_30 _ _ _ _ _ _).trans ?_
      refine (x_callV rfl rfl rfl rfl).trans ((cl_X11_quarter_X11_wakes _ _ _).trans ((gr_X11_wakes _ _ _ _).trans (pbd fun _ => ?_)))
      refine (t_X11_quarter_36 _ _ _ _ _ _ _).trans ?_
      refine x_goto.trans ?_
      exact (zrun_c rfl).trans (glr_X11_quarter_12 _ _ _ _ _ _)
theorem s_X11_quarter_12 {X : zX} (hX : zHX X) {c42 : zH → Option zH} (h42 : ∀ σ L st r, gl_X11_quarter_42 c42 σ L st = some r → zGW X 180 krV 42 σ L st r) : ∀ n σ L st r, gl_X11_quarter_12 (k_X11_quarter_12 c42 n) σ L st = some r → zGW X 180 krV 12 σ L st r := by
  intro n
  induction n with
  | zero =>
    intro σ L st r h
    unfold gl_X11_quarter_12 at h
    split at h <;> cases h
  | succ n ih =>
    intro σ L st r h
    unfold gl_X11_quarter_12 at h
    split at h
    · exact zin_ok (hy_X11_quarter hX) bk_X11_quarter (fun t f hf => by
      by_cases e12 : t = 12
      · rw [if_pos e12] at hf; subst e12; cases hf; exact ih
      rw [if_neg e12] at hf
      by_cases e42 : t = 42
      · rw [if_pos e42] at hf; subst e42; cases hf; exact h42
      rw [if_neg e42] at hf
      cases hf) ((e_X11_quarter_12 _ _ _ _ _ _ _).symm.trans h)
    · cases h
noncomputable def j_X11_quarter_138 (c48 : zH → Int32 → Option zH) (σ : zH) (x3 : Int32) (xs1 : Int32) (xs2 : Int32) (xs3 : Int32) : Option zH :=
  ix xs1 12 fun j2 =>
  zlet (uI σ 64 0 j2 (xs2 + xs3)) fun σ1 =>
  c48 σ1 (x3 + (1 : Int32))
theorem e_X11_quarter_138 (c48 : zH → Int32 → Option zH) (σ : zH) (x3 : Int32) (xs1 : Int32) (xs2 : Int32) (xs3 : Int32) (y1 : zAV) (y2 : zAV) (y4 : zAV) : j_X11_quarter_138 c48 σ x3 xs1 xs2 xs3 = zin cc_X11_quarter (fun t => if t = 48 then some (gl_X11_quarter_48 c48) else none) 9 krV b_X11_quarter 138 σ [vR 11 0, y1, y2, vI x3, y4] [vI xs3, vI xs2, vI xs1, vR 64 0] := by
  unfold j_X11_quarter_138
  refine Eq.symm ((zin_b (es := q_X11_quarter_138) rfl).trans ?_)
  refine (t_X11_quarter_138 _ _ _ _ _ _ _ _ _).trans ?_
  refine (x_iast (N := 12) rfl rfl).trans (pix fun _ => plt fun _ => ?_)
  refine (t_X11_quarter_140 _ _ _ _ _ _ _).trans ?_
  refine x_goto.trans ?_
  exact (zrun_c rfl).trans (glr_X11_quarter_48 _ _ _ _ _ _)
theorem s_X11_quarter_138 {X : zX} (hX : zHX X) {c48 : zH → Int32 → Option zH} (h48 : ∀ σ L st r, gl_X11_quarter_48 c48 σ L st = some r → zGW X 180 krV 48 σ L st r) : ∀ σ L st r, gl_X11_quarter_138 (j_X11_quarter_138 c48) σ L st = some r → zGW X 180 krV 138 σ L st r := by
  intro σ L st r h
  unfold gl_X11_quarter_138 at h
  split at h
  · exact zin_ok (hy_X11_quarter hX) bk_X11_quarter (fun t f hf => by
    by_cases e48 : t = 48
    · rw [if_pos e48] at hf; subst e48; cases hf; exact h48
    rw [if_neg e48] at hf
    cases hf) ((e_X11_quarter_138 _ _ _ _ _ _ _ _ _).symm.trans h)
  · cases h
noncomputable def j_X11_quarter_113 (c48 : zH → Int32 → Option zH) (σ : zH) (x3 : Int32) (xs1 : Int32) (xs2 : Int32) : Option zH :=
  ix xs1 12 fun j4 =>
  zlet (uI σ 63 0 j4 xs2) fun σ1 =>
  ix x3 12 fun j2 =>
  ix x3 12 fun j3 =>
  if (σ1.1 64 0 j3) < (999 : Int32) then
    (j_X11_quarter_138 c48) σ1 x3 x3 (σ1.1 64 0 j2) (1 : Int32)
  else
    (j_X11_quarter_138 c48) σ1 x3 x3 (σ1.1 64 0 j2) (0 : Int32)
theorem e_X11_quarter_113 (c48 : zH → Int32 → Option zH) (σ : zH) (x3 : Int32) (xs1 : Int32) (xs2 : Int32) (y1 : zAV) (y2 : zAV) (y4 : zAV) : j_X11_quarter_113 c48 σ x3 xs1 xs2 = zin cc_X11_quarter (fun t => if t = 138 then some (gl_X11_quarter_138 (j_X11_quarter_138 c48)) else none) 9 krV b_X11_quarter 113 σ [vR 11 0, y1, y2, vI x3, y4] [vI xs2, vI xs1, vR 63 0] := by
  unfold j_X11_quarter_113
  refine Eq.symm ((zin_b (es := q_X11_quarter_113) rfl).trans ?_)
  refine (x_iast (N := 12) rfl rfl).trans (pix fun _ => plt fun _ => ?_)
  refine (t_X11_quarter_114 _ _ _ _ _ _).trans ?_
  refine (x_iald (N := 12) rfl rfl).trans (pix fun _ => ?_)
  refine (t_X11_quarter_121 _ _ _ _ _ _ _ _).trans ?_
  refine (x_iald (N := 12) rfl rfl).trans (pix fun _ => ?_)
  refine (t_X11_quarter_127 _ _ _ _ _ _ _ _ _ _).trans ?_
  refine x_icmp.trans (pif_ge ?_ ?_)
  · refine (zrun_b (es := q_X11_quarter_137) rfl rfl).trans ?_
    refine (t_X11_quarter_137 _ _ _ _ _ _ _ _ _).trans ?_
    refine x_cut.trans ?_
    exact (zrun_c rfl).trans (glr_X11_quarter_138 _ _ _ _ _ _ _ _ _)
  · refine (t_X11_quarter_133 _ _ _ _ _ _ _ _ _).trans ?_
    refine x_goto.trans ?_
    exact (zrun_c rfl).trans (glr_X11_quarter_138 _ _ _ _ _ _ _ _ _)
theorem s_X11_quarter_113 {X : zX} (hX : zHX X) {c48 : zH → Int32 → Option zH} (h48 : ∀ σ L st r, gl_X11_quarter_48 c48 σ L st = some r → zGW X 180 krV 48 σ L st r) : ∀ σ L st r, gl_X11_quarter_113 (j_X11_quarter_113 c48) σ L st = some r → zGW X 180 krV 113 σ L st r := by
  intro σ L st r h
  unfold gl_X11_quarter_113 at h
  split at h
  · exact zin_ok (hy_X11_quarter hX) bk_X11_quarter (fun t f hf => by
    by_cases e138 : t = 138
    · rw [if_pos e138] at hf; subst e138; cases hf; exact (s_X11_quarter_138 hX h48)
    rw [if_neg e138] at hf
    cases hf) ((e_X11_quarter_113 _ _ _ _ _ _ _ _).symm.trans h)
  · cases h
noncomputable def j_X11_quarter_80 (c48 : zH → Int32 → Option zH) (σ : zH) (x3 : Int32) (xs0 : Int32) (xs1 : Int32) : Option zH :=
  if (xs0 + xs1) < 0 then
    (j_X11_quarter_113 c48) σ x3 x3 (0 : Int32)
  else
    if (999 : Int32) < (xs0 + xs1) then
      (j_X11_quarter_113 c48) σ x3 x3 (999 : Int32)
    else
      (j_X11_quarter_113 c48) σ x3 x3 (xs0 + xs1)
theorem e_X11_quarter_80 (c48 : zH → Int32 → Option zH) (σ : zH) (x3 : Int32) (xs0 : Int32) (xs1 : Int32) (y1 : zAV) (y2 : zAV) (y4 : zAV) : j_X11_quarter_80 c48 σ x3 xs0 xs1 = zin cc_X11_quarter (fun t => if t = 113 then some (gl_X11_quarter_113 (j_X11_quarter_113 c48)) else none) 9 krV b_X11_quarter 80 σ [vR 11 0, y1, y2, vI x3, y4] [vI xs1, vI xs0] := by
  unfold j_X11_quarter_80
  refine Eq.symm ((zin_b (es := q_X11_quarter_80) rfl).trans ?_)
  refine (t_X11_quarter_80 _ _ _ _ _ _ _ _).trans ?_
  refine x_if.trans (pif_ge ?_ ?_)
  · refine (zrun_b (es := q_X11_quarter_97) rfl rfl).trans ?_
    refine (t_X11_quarter_97 _ _ _ _ _ _ _ _).trans ?_
    refine x_icmp.trans (pif_le ?_ ?_)
    · refine (zrun_b (es := q_X11_quarter_111) rfl rfl).trans ?_
      refine (t_X11_quarter_111 _ _ _ _ _ _ _).trans ?_
      refine x_cut.trans ?_
      exact (zrun_c rfl).trans (glr_X11_quarter_113 _ _ _ _ _ _ _ _)
    · refine (t_X11_quarter_105 _ _ _ _ _ _ _ _).trans ?_
      refine x_goto.trans ?_
      exact (zrun_c rfl).trans (glr_X11_quarter_113 _ _ _ _ _ _ _ _)
  · refine (t_X11_quarter_93 _ _ _ _ _ _ _ _).trans ?_
    refine x_goto.trans ?_
    exact (zrun_c rfl).trans (glr_X11_quarter_113 _ _ _ _ _ _ _ _)
theorem s_X11_quarter_80 {X : zX} (hX : zHX X) {c48 : zH → Int32 → Option zH} (h48 : ∀ σ L st r, gl_X11_quarter_48 c48 σ L st = some r → zGW X 180 krV 48 σ L st r) : ∀ σ L st r, gl_X11_quarter_80 (j_X11_quarter_80 c48) σ L st = some r → zGW X 180 krV 80 σ L st r := by
  intro σ L st r h
  unfold gl_X11_quarter_80 at h
  split at h
  · exact zin_ok (hy_X11_quarter hX) bk_X11_quarter (fun t f hf => by
    by_cases e113 : t = 113
    · rw [if_pos e113] at hf; subst e113; cases hf; exact (s_X11_quarter_113 hX h48)
    rw [if_neg e113] at hf
    cases hf) ((e_X11_quarter_80 _ _ _ _ _ _ _ _).symm.trans h)
  · cases h
noncomputable def k_X11_quarter_48 (c146 : zH → Option zH) : Nat → zH → Int32 → Option zH
  | 0, _, _ => none
  | n + 1, σ, x3 =>
    if x3 < (σ.1 42 0 0) then
      ix x3 12 fun j1 =>
      ix x3 12 fun j2 =>
      if (σ.1 62 0 j2) = (1 : Int32) then
        (j_X11_quarter_80 (k_X11_quarter_48 c146 n)) σ x3 (σ.1 63 0 j1) (-2 : Int32)
      else
        (j_X11_quarter_80 (k_X11_quarter_48 c146 n)) σ x3 (σ.1 63 0 j1) (1 : Int32)
    else
      c146 σ
theorem e_X11_quarter_48 (c146 : zH → Option zH) (n : Nat) (σ : zH) (x3 : Int32) (y1 : zAV) (y2 : zAV) (y4 : zAV) : k_X11_quarter_48 c146 (n + 1) σ x3 = zin cc_X11_quarter (fun t => if t = 80 then some (gl_X11_quarter_80 (j_X11_quarter_80 (k_X11_quarter_48 c146 n))) else if t = 146 then some (gl_X11_quarter_146 c146) else none) 9 krV b_X11_quarter 48 σ [vR 11 0, y1, y2, vI x3, y4] [] := by
  rw [k_X11_quarter_48]
  refine Eq.symm ((zin_b (es := q_X11_quarter_48) rfl).trans ?_)
  refine (t_X11_quarter_48 _ _ _ _ _ _ _).trans ?_
  refine ((x_iald (N := 11) rfl rfl).trans (ix_l 0 (by decide +kernel))).trans ?_
  refine x_icmp.trans (pif_ge ?_ ?_)
  · exact (zrun_c rfl).trans (glr_X11_quarter_146 _ _ _ _ _ _)
  · refine (t_X11_quarter_58 _ _ _ _ _ _).trans ?_
    refine (x_iald (N := 12) rfl rfl).trans (pix fun _ => ?_)
    refine (t_X11_quarter_64 _ _ _ _ _ _ _).trans ?_
    refine (x_iald (N := 12) rfl rfl).trans (pix fun _ => ?_)
    refine (t_X11_quarter_70 _ _ _ _ _ _ _ _ _).trans ?_
    refine x_icmp.trans (pif_ne ?_ ?_)
    · refine (zrun_b (es := q_X11_quarter_79) rfl rfl).trans ?_
      refine (t_X11_quarter_79 _ _ _ _ _ _ _ _).trans ?_
      refine x_cut.trans ?_
      exact (zrun_c rfl).trans (glr_X11_quarter_80 _ _ _ _ _ _ _ _)
    · refine (t_X11_quarter_74 _ _ _ _ _ _ _ _).trans ?_
      refine x_goto.trans ?_
      exact (zrun_c rfl).trans (glr_X11_quarter_80 _ _ _ _ _ _ _ _)
theorem s_X11_quarter_48 {X : zX} (hX : zHX X) {c146 : zH → Option zH} (h146 : ∀ σ L st r, gl_X11_quarter_146 c146 σ L st = some r → zGW X 180 krV 146 σ L st r) : ∀ n σ L st r, gl_X11_quarter_48 (k_X11_quarter_48 c146 n) σ L st = some r → zGW X 180 krV 48 σ L st r := by
  intro n
  induction n with
  | zero =>
    intro σ L st r h
    unfold gl_X11_quarter_48 at h
    split at h <;> cases h
  | succ n ih =>
    intro σ L st r h
    unfold gl_X11_quarter_48 at h
    split at h
    · exact zin_ok (hy_X11_quarter hX) bk_X11_quarter (fun t f hf => by
      by_cases e80 : t = 80
      · rw [if_pos e80] at hf; subst e80; cases hf; exact (s_X11_quarter_80 hX ih)
      rw [if_neg e80] at hf
      by_cases e146 : t = 146
      · rw [if_pos e146] at hf; subst e146; cases hf; exact h146
      rw [if_neg e146] at hf
      cases hf) ((e_X11_quarter_48 _ _ _ _ _ _ _).symm.trans h)
    · cases h
noncomputable def k_X11_quarter_211 (c235 : zH → Int32 → Option zH) : Nat → zH → Int32 → Int32 → Option zH
  | 0, _, _, _ => none
  | n + 1, σ, x2, x3 =>
    if (0 : Int32) < x3 then
      ix (x3 - (1 : Int32)) 192 fun j1 =>
      ix x3 192 fun j3 =>
      zlet (uI σ 66 0 j3 (σ.1 66 0 j1)) fun σ2 =>
      (k_X11_quarter_211 c235 n) σ2 x2 (x3 + (-1 : Int32))
    else
      c235 σ x2
theorem e_X11_quarter_211 (c235 : zH → Int32 → Option zH) (n : Nat) (σ : zH) (x2 : Int32) (x3 : Int32) (y1 : zAV) (y4 : zAV) : k_X11_quarter_211 c235 (n + 1) σ x2 x3 = zin cc_X11_quarter (fun t => if t = 211 then some (gl_X11_quarter_211 (k_X11_quarter_211 c235 n)) else if t = 235 then some (gl_X11_quarter_235 c235) else none) 9 krV b_X11_quarter 211 σ [vR 11 0, y1, vI x2, vI x3, y4] [] := by
  rw [k_X11_quarter_211]
  refine Eq.symm ((zin_b (es := q_X11_quarter_211) rfl).trans ?_)
  refine (t_X11_quarter_211 _ _ _ _ _ _).trans ?_
  refine x_if.trans (pif_le ?_ ?_)
  · exact (zrun_c rfl).trans (glr_X11_quarter_235 _ _ _ _ _ _)
  · refine (t_X11_quarter_215 _ _ _ _ _ _ _).trans ?_
    refine (x_iald (N := 192) rfl rfl).trans (pix fun _ => ?_)
    refine (x_iast (N := 192) rfl rfl).trans (pix fun _ => plt fun _ => ?_)
    refine (t_X11_quarter_229 _ _ _ _ _ _ _).trans ?_
    refine x_goto.trans ?_
    exact (zrun_c rfl).trans (glr_X11_quarter_211 _ _ _ _ _ _)
theorem s_X11_quarter_211 {X : zX} (hX : zHX X) {c235 : zH → Int32 → Option zH} (h235 : ∀ σ L st r, gl_X11_quarter_235 c235 σ L st = some r → zGW X 180 krV 235 σ L st r) : ∀ n σ L st r, gl_X11_quarter_211 (k_X11_quarter_211 c235 n) σ L st = some r → zGW X 180 krV 211 σ L st r := by
  intro n
  induction n with
  | zero =>
    intro σ L st r h
    unfold gl_X11_quarter_211 at h
    split at h <;> cases h
  | succ n ih =>
    intro σ L st r h
    unfold gl_X11_quarter_211 at h
    split at h
    · exact zin_ok (hy_X11_quarter hX) bk_X11_quarter (fun t f hf => by
      by_cases e211 : t = 211
      · rw [if_pos e211] at hf; subst e211; cases hf; exact ih
      rw [if_neg e211] at hf
      by_cases e235 : t = 235
      · rw [if_pos e235] at hf; subst e235; cases hf; exact h235
      rw [if_neg e235] at hf
      cases hf) ((e_X11_quarter_211 _ _ _ _ _ _ _).symm.trans h)
    · cases h
noncomputable def j_X11_quarter_268  (σ : zH) (xs1 : Int32) (xs2 : Int32) (xs3 : Int32) : Option zH :=
  ix xs1 11 fun j3 =>
  zlet (uI σ 42 0 j3 (xs2 + xs3)) fun σ1 =>
  zlet (uI σ1 42 0 4 ((σ1.1 42 0 4) + (1 : Int32))) fun σ2 =>
  some σ2
theorem e_X11_quarter_268  (σ : zH) (xs1 : Int32) (xs2 : Int32) (xs3 : Int32) (y1 : zAV) (y2 : zAV) (y3 : zAV) (y4 : zAV) : j_X11_quarter_268 σ xs1 xs2 xs3 = zin cc_X11_quarter (fun t => none) 9 krV b_X11_quarter 268 σ [vR 11 0, y1, y2, y3, y4] [vI xs3, vI xs2, vI xs1, vR 42 0] := by
  unfold j_X11_quarter_268
  refine Eq.symm ((zin_b (es := q_X11_quarter_268) rfl).trans ?_)
  refine (t_X11_quarter_268 _ _ _ _ _ _ _ _ _).trans ?_
  refine (x_iast (N := 11) rfl rfl).trans (pix fun _ => plt fun _ => ?_)
  refine (t_X11_quarter_270 _ _ _ _ _ _ _).trans ?_
  refine ((x_iald (N := 11) rfl rfl).trans (ix_l 4 (by decide +kernel))).trans ?_
  refine (t_X11_quarter_277 _ _ _ _ _ _ _ _ _ _).trans ?_
  refine (x_iast (N := 11) rfl rfl).trans ((ix_l 4 (by decide +kernel)).trans (plt fun _ => ?_))
  exact x_vret
theorem s_X11_quarter_268 {X : zX} (hX : zHX X)   : ∀ σ L st r, gl_X11_quarter_268 j_X11_quarter_268 σ L st = some r → zGW X 180 krV 268 σ L st r := by
  intro σ L st r h
  unfold gl_X11_quarter_268 at h
  split at h
  · exact zin_ok (hy_X11_quarter hX) bk_X11_quarter (fun t f hf => by
    cases hf) ((e_X11_quarter_268 _ _ _ _ _ _ _ _).symm.trans h)
  · cases h
noncomputable def j_X11_quarter_235  (σ : zH) (x2 : Int32) : Option zH :=
  zlet (uI σ 66 0 0 x2) fun σ1 =>
  if (σ1.1 42 0 9) < (192 : Int32) then
    j_X11_quarter_268 σ1 (9 : Int32) (σ1.1 42 0 9) (1 : Int32)
  else
    j_X11_quarter_268 σ1 (9 : Int32) (σ1.1 42 0 9) (0 : Int32)
theorem e_X11_quarter_235  (σ : zH) (x2 : Int32) (y1 : zAV) (y3 : zAV) (y4 : zAV) : j_X11_quarter_235 σ x2 = zin cc_X11_quarter (fun t => if t = 268 then some (gl_X11_quarter_268 j_X11_quarter_268) else none) 9 krV b_X11_quarter 235 σ [vR 11 0, y1, vI x2, y3, y4] [] := by
  unfold j_X11_quarter_235
  refine Eq.symm ((zin_b (es := q_X11_quarter_235) rfl).trans ?_)
  refine (t_X11_quarter_235 _ _ _ _ _ _ _).trans ?_
  refine (x_iast (N := 192) rfl rfl).trans ((ix_l 0 (by decide +kernel)).trans (plt fun _ => ?_))
  refine (t_X11_quarter_242 _ _ _ _ _ _ _).trans ?_
  refine ((x_iald (N := 11) rfl rfl).trans (ix_l 9 (by decide +kernel))).trans ?_
  refine (t_X11_quarter_250 _ _ _ _ _ _ _ _ _).trans ?_
  refine ((x_iald (N := 11) rfl rfl).trans (ix_l 9 (by decide +kernel))).trans ?_
  refine (t_X11_quarter_257 _ _ _ _ _ _ _ _ _ _).trans ?_
  refine x_icmp.trans (pif_ge ?_ ?_)
  · refine (zrun_b (es := q_X11_quarter_267) rfl rfl).trans ?_
    refine (t_X11_quarter_267 _ _ _ _ _ _ _ _ _).trans ?_
    refine x_cut.trans ?_
    exact (zrun_c rfl).trans (glr_X11_quarter_268 _ _ _ _ _ _ _ _ _)
  · refine (t_X11_quarter_263 _ _ _ _ _ _ _ _ _).trans ?_
    refine x_goto.trans ?_
    exact (zrun_c rfl).trans (glr_X11_quarter_268 _ _ _ _ _ _ _ _ _)
theorem s_X11_quarter_235 {X : zX} (hX : zHX X)   : ∀ σ L st r, gl_X11_quarter_235 j_X11_quarter_235 σ L st = some r → zGW X 180 krV 235 σ L st r := by
  intro σ L st r h
  unfold gl_X11_quarter_235 at h
  split at h
  · exact zin_ok (hy_X11_quarter hX) bk_X11_quarter (fun t f hf => by
    by_cases e268 : t = 268
    · rw [if_pos e268] at hf; subst e268; cases hf; exact (s_X11_quarter_268 hX)
    rw [if_neg e268] at hf
    cases hf) ((e_X11_quarter_235 _ _ _ _ _).symm.trans h)
  · cases h
noncomputable def j_X11_quarter_207  (σ : zH) (x2 : Int32) : Option zH :=
  (k_X11_quarter_211 j_X11_quarter_235 zN) σ x2 (191 : Int32)
theorem e_X11_quarter_207  (σ : zH) (x2 : Int32) (y1 : zAV) (y3 : zAV) (y4 : zAV) : j_X11_quarter_207 σ x2 = zin cc_X11_quarter (fun t => if t = 211 then some (gl_X11_quarter_211 (k_X11_quarter_211 j_X11_quarter_235 zN)) else none) 9 krV b_X11_quarter 207 σ [vR 11 0, y1, vI x2, y3, y4] [] := by
  unfold j_X11_quarter_207
  refine Eq.symm ((zin_b (es := q_X11_quarter_207) rfl).trans ?_)
  refine (t_X11_quarter_207 _ _ _ _ _ _ _).trans ?_
  refine x_cut.trans ?_
  exact (zrun_c rfl).trans (glr_X11_quarter_211 _ _ _ _ _ _)
theorem s_X11_quarter_207 {X : zX} (hX : zHX X)   : ∀ σ L st r, gl_X11_quarter_207 j_X11_quarter_207 σ L st = some r → zGW X 180 krV 207 σ L st r := by
  intro σ L st r h
  unfold gl_X11_quarter_207 at h
  split at h
  · exact zin_ok (hy_X11_quarter hX) bk_X11_quarter (fun t f hf => by
    by_cases e211 : t = 211
    · rw [if_pos e211] at hf; subst e211; cases hf; exact ((fun σ L st r h => s_X11_quarter_211 hX (s_X11_quarter_235 hX) zN σ L st r h))
    rw [if_neg e211] at hf
    cases hf) ((e_X11_quarter_207 _ _ _ _ _).symm.trans h)
  · cases h
noncomputable def j_X11_quarter_196  (σ : zH) (x2 : Int32) (xs1 : Int32) (xs2 : Int32) : Option zH :=
  ix xs1 11 fun j3 =>
  zlet (uI σ 42 0 j3 xs2) fun σ1 =>
  zlet (uI σ1 42 0 5 ((σ1.1 42 0 5) + (1 : Int32))) fun σ2 =>
  j_X11_quarter_207 σ2 x2
theorem e_X11_quarter_196  (σ : zH) (x2 : Int32) (xs1 : Int32) (xs2 : Int32) (y1 : zAV) (y3 : zAV) (y4 : zAV) : j_X11_quarter_196 σ x2 xs1 xs2 = zin cc_X11_quarter (fun t => if t = 207 then some (gl_X11_quarter_207 j_X11_quarter_207) else none) 9 krV b_X11_quarter 196 σ [vR 11 0, y1, vI x2, y3, y4] [vI xs2, vI xs1, vR 42 0] := by
  unfold j_X11_quarter_196
  refine Eq.symm ((zin_b (es := q_X11_quarter_196) rfl).trans ?_)
  refine (x_iast (N := 11) rfl rfl).trans (pix fun _ => plt fun _ => ?_)
  refine (t_X11_quarter_197 _ _ _ _ _ _ _).trans ?_
  refine ((x_iald (N := 11) rfl rfl).trans (ix_l 5 (by decide +kernel))).trans ?_
  refine (t_X11_quarter_204 _ _ _ _ _ _ _ _ _).trans ?_
  refine (x_iast (N := 11) rfl rfl).trans ((ix_l 5 (by decide +kernel)).trans (plt fun _ => ?_))
  refine x_cut.trans ?_
  exact (zrun_c rfl).trans (glr_X11_quarter_207 _ _ _ _ _ _)
theorem s_X11_quarter_196 {X : zX} (hX : zHX X)   : ∀ σ L st r, gl_X11_quarter_196 j_X11_quarter_196 σ L st = some r → zGW X 180 krV 196 σ L st r := by
  intro σ L st r h
  unfold gl_X11_quarter_196 at h
  split at h
  · exact zin_ok (hy_X11_quarter hX) bk_X11_quarter (fun t f hf => by
    by_cases e207 : t = 207
    · rw [if_pos e207] at hf; subst e207; cases hf; exact (s_X11_quarter_207 hX)
    rw [if_neg e207] at hf
    cases hf) ((e_X11_quarter_196 _ _ _ _ _ _ _).symm.trans h)
  · cases h
noncomputable def j_X11_quarter_146  (σ : zH)  : Option zH :=
  (d_X11_upSet σ).bind fun p1 =>
  (d_X11_menOf p1.1 p1.2).bind fun p2 =>
  if p2.2 < (p2.1.1 42 0 3) then
    if (p2.1.1 42 0 5) = 0 then
      j_X11_quarter_196 p2.1 p1.2 (6 : Int32) (p2.1.1 42 0 4)
    else
      j_X11_quarter_196 p2.1 p1.2 (6 : Int32) (p2.1.1 42 0 6)
  else
    j_X11_quarter_207 p2.1 p1.2
theorem e_X11_quarter_146  (σ : zH)  (y1 : zAV) (y2 : zAV) (y3 : zAV) (y4 : zAV) : j_X11_quarter_146 σ = zin cc_X11_quarter (fun t => if t = 196 then some (gl_X11_quarter_196 j_X11_quarter_196) else if t = 207 then some (gl_X11_quarter_207 j_X11_quarter_207) else none) 9 krV b_X11_quarter 146 σ [vR 11 0, y1, y2, y3, y4] [] := by
  unfold j_X11_quarter_146
  refine Eq.symm ((zin_b (es := q_X11_quarter_146) rfl).trans ?_)
  refine (t_X11_quarter_146 _ _ _ _ _ _).trans ?_
  refine (x_callV rfl rfl rfl rfl).trans ((cl_X11_quarter_X11_upSet _ _ _).trans ((gr_X11_upSet _ _).trans (pbd fun _ => ?_)))
  refine (t_X11_quarter_150 _ _ _ _ _ _ _).trans ?_
  refine (x_callV rfl rfl rfl rfl).trans ((cl_X11_quarter_X11_menOf _ _ _).trans ((gr_X11_menOf _ _ _).trans (pbd fun _ => ?_)))
  refine (t_X11_quarter_156 _ _ _ _ _ _ _ _).trans ?_
  refine ((x_iald (N := 11) rfl rfl).trans (ix_l 3 (by decide +kernel))).trans ?_
  refine x_icmp.trans (pif_ge ?_ ?_)
  · exact (zrun_c rfl).trans (glr_X11_quarter_207 _ _ _ _ _ _)
  · refine (t_X11_quarter_165 _ _ _ _ _ _ _ _).trans ?_
    refine ((x_iald (N := 11) rfl rfl).trans (ix_l 5 (by decide +kernel))).trans ?_
    refine x_if.trans (pif_ne ?_ ?_)
    · refine (zrun_b (es := q_X11_quarter_189) rfl rfl).trans ?_
      refine (t_X11_quarter_189 _ _ _ _ _ _ _ _).trans ?_
      refine ((x_iald (N := 11) rfl rfl).trans (ix_l 6 (by decide +kernel))).trans ?_
      refine x_cut.trans ?_
      exact (zrun_c rfl).trans (glr_X11_quarter_196 _ _ _ _ _ _ _ _)
    · refine (t_X11_quarter_180 _ _ _ _ _ _ _ _).trans ?_
      refine ((x_iald (N := 11) rfl rfl).trans (ix_l 4 (by decide +kernel))).trans ?_
      refine x_goto.trans ?_
      exact (zrun_c rfl).trans (glr_X11_quarter_196 _ _ _ _ _ _ _ _)
theorem s_X11_quarter_146 {X : zX} (hX : zHX X)   : ∀ σ L st r, gl_X11_quarter_146 j_X11_quarter_146 σ L st = some r → zGW X 180 krV 146 σ L st r := by
  intro σ L st r h
  unfold gl_X11_quarter_146 at h
  split at h
  · exact zin_ok (hy_X11_quarter hX) bk_X11_quarter (fun t f hf => by
    by_cases e196 : t = 196
    · rw [if_pos e196] at hf; subst e196; cases hf; exact (s_X11_quarter_196 hX)
    rw [if_neg e196] at hf
    by_cases e207 : t = 207
    · rw [if_pos e207] at hf; subst e207; cases hf; exact (s_X11_quarter_207 hX)
    rw [if_neg e207] at hf
    cases hf) ((e_X11_quarter_146 _ _ _ _ _).symm.trans h)
  · cases h
noncomputable def j_X11_quarter_42  (σ : zH)  : Option zH :=
  (d_X11_snores σ).bind fun σ1 =>
  (k_X11_quarter_48 j_X11_quarter_146 zN) σ1 (0 : Int32)
theorem e_X11_quarter_42  (σ : zH)  (y1 : zAV) (y2 : zAV) (y3 : zAV) (y4 : zAV) : j_X11_quarter_42 σ = zin cc_X11_quarter (fun t => if t = 48 then some (gl_X11_quarter_48 (k_X11_quarter_48 j_X11_quarter_146 zN)) else none) 9 krV b_X11_quarter 42 σ [vR 11 0, y1, y2, y3, y4] [] := by
  unfold j_X11_quarter_42
  refine Eq.symm ((zin_b (es := q_X11_quarter_42) rfl).trans ?_)
  refine (t_X11_quarter_42 _ _ _ _ _ _).trans ?_
  refine (x_callV rfl rfl rfl rfl).trans ((cl_X11_quarter_X11_snores _ _ _).trans ((gr_X11_snores _ _).trans (pbd fun _ => ?_)))
  refine (t_X11_quarter_46 _ _ _ _ _ _ _).trans ?_
  refine x_cut.trans ?_
  exact (zrun_c rfl).trans (glr_X11_quarter_48 _ _ _ _ _ _)
theorem s_X11_quarter_42 {X : zX} (hX : zHX X)   : ∀ σ L st r, gl_X11_quarter_42 j_X11_quarter_42 σ L st = some r → zGW X 180 krV 42 σ L st r := by
  intro σ L st r h
  unfold gl_X11_quarter_42 at h
  split at h
  · exact zin_ok (hy_X11_quarter hX) bk_X11_quarter (fun t f hf => by
    by_cases e48 : t = 48
    · rw [if_pos e48] at hf; subst e48; cases hf; exact ((fun σ L st r h => s_X11_quarter_48 hX (s_X11_quarter_146 hX) zN σ L st r h))
    rw [if_neg e48] at hf
    cases hf) ((e_X11_quarter_42 _ _ _ _ _).symm.trans h)
  · cases h
noncomputable def d_X11_quarter (σ : zH) (xa1 : Int32) : Option zH :=
  (d_X11_upSet σ).bind fun p1 =>
  (d_X11_lieDown p1.1 xa1).bind fun σ2 =>
  (k_X11_quarter_12 j_X11_quarter_42 zN) σ2 xa1 p1.2 (0 : Int32)
theorem e_X11_quarter (σ : zH) (xa1 : Int32) : d_X11_quarter σ xa1 = zin cc_X11_quarter (fun t => if t = 12 then some (gl_X11_quarter_12 (k_X11_quarter_12 j_X11_quarter_42 zN)) else none) 9 krV b_X11_quarter 0 σ [vR 11 0, vI xa1, vU, vU, vU] [] := by
  unfold d_X11_quarter
  refine Eq.symm ((zin_b (es := q_X11_quarter_0) rfl).trans ?_)
  refine (t_X11_quarter_0 _ _ _ _ _ _).trans ?_
  refine (x_callV rfl rfl rfl rfl).trans ((cl_X11_quarter_X11_upSet _ _ _).trans ((gr_X11_upSet _ _).trans (pbd fun _ => ?_)))
  refine (t_X11_quarter_4 _ _ _ _ _ _ _).trans ?_
  refine (x_callV rfl rfl rfl rfl).trans ((cl_X11_quarter_X11_lieDown _ _ _).trans ((gr_X11_lieDown _ _ _).trans (pbd fun _ => ?_)))
  refine (t_X11_quarter_10 _ _ _ _ _ _ _).trans ?_
  refine x_cut.trans ?_
  exact (zrun_c rfl).trans (glr_X11_quarter_12 _ _ _ _ _ _)
noncomputable def g_X11_quarter {ρ : Type} (σ : zH) (av : List zAV) (q : zH → zAV → Option ρ) : Option ρ := match av with
  | [.inr (.inr (.inl (11, 0))), .inl xa1] => (d_X11_quarter σ xa1).bind fun σ => q σ vU
  | _ => none
theorem gr_X11_quarter {ρ : Type} (σ : zH) (xa1 : Int32) (q : zH → zAV → Option ρ) : g_X11_quarter σ [vR 11 0, vI xa1] q = (d_X11_quarter σ xa1).bind fun σ => q σ vU := rfl
theorem c_X11_quarter {ρ : Type} {X : zX} (hX : zHX X) {σ : zH} {av : List zAV} {q : zH → zAV → Option ρ} {r : ρ} (h : g_X11_quarter σ av q = some r) (hv : ∀ a ∈ av, zval X a) : zcon X 180 σ av q r := by
  unfold g_X11_quarter at h
  split at h
  · exact zcon_V (n := 180) (ml := 5) (rc := 9) (st := 0) (kd := 11) (np := 1) (by decide +kernel) rfl ⟨_, _, rfl, rfl⟩ (Nat.le_of_ble_eq_true rfl) hv h (fun y h1 => (zin_ok (hy_X11_quarter hX) bk_X11_quarter (fun t f hf => by
      by_cases e12 : t = 12
      · rw [if_pos e12] at hf; subst e12; cases hf; exact ((fun σ L st r h => s_X11_quarter_12 hX (s_X11_quarter_42 hX) zN σ L st r h))
      rw [if_neg e12] at hf
      cases hf) ((e_X11_quarter _ _).symm.trans h1)))
  · cases h
/-! SleepWavesModel.tick(II)I -/
def q_X11_tick_35 : List zEnt := zE 35 .ireturn 1 :: []
def q_X11_tick_34 : List zEnt := zEk 34 (.iconst (-1)) 1 (-1) :: q_X11_tick_35
def q_X11_tick_31 : List zEnt := zEa 31 (.if_icmp .le 5) 3 36 :: q_X11_tick_34
def q_X11_tick_26 : List zEnt := zE 26 (.iload_n 2) 1 :: zE 27 .iadd 1 :: zEk 28 (.sipush 9999) 3 9999 :: q_X11_tick_31
def q_X11_tick_25 : List zEnt := zE 25 .iaload 1 :: q_X11_tick_26
def q_X11_tick_20 : List zEnt := zE 20 (.aload_n 0) 1 :: zEf 21 (.getfield 7) 3 11 1 149 (2, 42, 0) :: zEk 24 (.iconst 4) 1 4 :: q_X11_tick_25
def q_X11_tick_17 : List zEnt := zEa 17 (.ifCond .eq 17) 3 34 :: q_X11_tick_20
def q_X11_tick_14 : List zEnt := zEc 14 (.invokestatic 173) 3 125 3 129 0 :: q_X11_tick_17
def q_X11_tick_8 : List zEnt := zE 8 (.iload_n 2) 1 :: zE 9 .i2l 1 :: (10, (.lconst 1), 1, (0, 0, 0, 0), (0, 0, 0), 0, 1, []) :: (11, (.ldc2_w 421), 3, (0, 0, 1488, 0), (0, 0, 0), 0, 96, []) :: q_X11_tick_14
def q_X11_tick_5 : List zEnt := zEa 5 (.ifCond .eq 29) 3 34 :: q_X11_tick_8
def q_X11_tick_2 : List zEnt := zEc 2 (.invokevirtual 418) 3 164 2 145 0 :: q_X11_tick_5
def q_X11_tick_0 : List zEnt := zE 0 (.aload_n 0) 1 :: zE 1 (.iload_n 1) 1 :: q_X11_tick_2
def q_X11_tick_36 : List zEnt := zEk 36 (.iconst 0) 1 0 :: zE 37 (.istore_n 3) 1 :: [zE 38 .nop 0]
def q_X11_tick_51 : List zEnt := zEa 51 (.goto (-13)) 3 38 :: []
def q_X11_tick_48 : List zEnt := zEk 48 (.iinc 3 1) 3 1 :: q_X11_tick_51
def q_X11_tick_45 : List zEnt := zEc 45 (.invokevirtual 423) 3 180 2 146 1 :: q_X11_tick_48
def q_X11_tick_43 : List zEnt := zE 43 (.aload_n 0) 1 :: zE 44 (.iload_n 1) 1 :: q_X11_tick_45
def q_X11_tick_40 : List zEnt := zEa 40 (.if_icmp .ge 14) 3 54 :: q_X11_tick_43
def q_X11_tick_38 : List zEnt := zE 38 (.iload_n 3) 1 :: zE 39 (.iload_n 2) 1 :: q_X11_tick_40
def q_X11_tick_60 : List zEnt := zE 60 .ireturn 1 :: []
def q_X11_tick_59 : List zEnt := zE 59 .iaload 1 :: q_X11_tick_60
def q_X11_tick_54 : List zEnt := zE 54 (.aload_n 0) 1 :: zEf 55 (.getfield 7) 3 11 1 149 (2, 42, 0) :: zEk 58 (.iconst 4) 1 4 :: q_X11_tick_59
def b_X11_tick : List (Nat × List zEnt) := [(0, q_X11_tick_0), (34, q_X11_tick_34), (36, q_X11_tick_36), (38, q_X11_tick_38), (54, q_X11_tick_54)]
theorem bk_X11_tick : zchB 181 b_X11_tick = true := by decide +kernel
noncomputable def cc_X11_tick {ρ : Type} : Nat → zH → List zAV → (zH → zAV → Option ρ) → Option ρ := fun n σ av q => if n = 164 then g_X11_isLaw σ av q else if n = 125 then g_X11_in σ av q else if n = 180 then g_X11_quarter σ av q else none
theorem cs_X11_tick {ρ : Type} {X : zX} (hX : zHX X) : zCS X (cc_X11_tick (ρ := ρ)) := by
  intro n σ av q r h hv
  unfold cc_X11_tick at h
  by_cases e_X11_isLaw : n = 164
  · rw [if_pos e_X11_isLaw] at h
    subst e_X11_isLaw
    exact c_X11_isLaw hX h hv
  rw [if_neg e_X11_isLaw] at h
  by_cases e_X11_in : n = 125
  · rw [if_pos e_X11_in] at h
    subst e_X11_in
    exact c_X11_in hX h hv
  rw [if_neg e_X11_in] at h
  by_cases e_X11_quarter : n = 180
  · rw [if_pos e_X11_quarter] at h
    subst e_X11_quarter
    exact c_X11_quarter hX h hv
  rw [if_neg e_X11_quarter] at h
  cases h
theorem cl_X11_tick_X11_isLaw {ρ : Type} (σ : zH) (av : List zAV) (q : zH → zAV → Option ρ) : cc_X11_tick 164 σ av q = g_X11_isLaw σ av q := rfl
theorem cl_X11_tick_X11_in {ρ : Type} (σ : zH) (av : List zAV) (q : zH → zAV → Option ρ) : cc_X11_tick 125 σ av q = g_X11_in σ av q := rfl
theorem cl_X11_tick_X11_quarter {ρ : Type} (σ : zH) (av : List zAV) (q : zH → zAV → Option ρ) : cc_X11_tick 180 σ av q = g_X11_quarter σ av q := rfl
theorem hy_X11_tick {ρ : Type} {X : zX} (hX : zHX X) : zHY X 181 (cc_X11_tick (ρ := ρ)) := zHX.hY hX (cs_X11_tick hX) (zmok_all 181 (by decide))
def gl_X11_tick_38 {ρ : Type} (f : zH → Int32 → Int32 → Int32 → Option ρ) (σ : zH) (L st : List zAV) : Option ρ := match L, st with
  | [.inr (.inr (.inl (11, 0))), .inl x1, .inl x2, .inl x3], [] => f σ x1 x2 x3
  | _, _ => none
theorem glr_X11_tick_38 {ρ : Type} (f : zH → Int32 → Int32 → Int32 → Option ρ) (σ : zH) (x1 : Int32) (x2 : Int32) (x3 : Int32)  : gl_X11_tick_38 f σ [vR 11 0, vI x1, vI x2, vI x3] [] = f σ x1 x2 x3 := rfl
theorem t_X11_tick_0 {G : Nat → zH → List zAV → List zAV → Option (zH × Int32)} (es : List zEnt) (σ : zH) (x1 : Int32) (x2 : Int32) (y3 : zAV)  : zev cc_X11_tick G 0 krI (zE 0 (.aload_n 0) 1 :: zE 1 (.iload_n 1) 1 :: es) σ [vR 11 0, vI x1, vI x2, y3] [] = zev cc_X11_tick G 0 krI es σ [vR 11 0, vI x1, vI x2, y3] [vI x1, vR 11 0] := rfl
theorem t_X11_tick_8 {G : Nat → zH → List zAV → List zAV → Option (zH × Int32)} (es : List zEnt) (σ : zH) (x1 : Int32) (x2 : Int32) (y3 : zAV) (w10 : Int64) (w11 : Int64) : zev cc_X11_tick G 0 krI (zE 8 (.iload_n 2) 1 :: zE 9 .i2l 1 :: (10, (.lconst 1), 1, (0, 0, 0, 0), (0, 0, 0), 0, w10, []) :: (11, (.ldc2_w 421), 3, (0, 0, 1488, 0), (0, 0, 0), 0, w11, []) :: es) σ [vR 11 0, vI x1, vI x2, y3] [] = zev cc_X11_tick G 0 krI es σ [vR 11 0, vI x1, vI x2, y3] [vL w11, vL w10, vL x2.toInt64] := rfl
theorem t_X11_tick_20 {G : Nat → zH → List zAV → List zAV → Option (zH × Int32)} (es : List zEnt) (σ : zH) (x1 : Int32) (x2 : Int32) (y3 : zAV) (w24 : Int32) : zev cc_X11_tick G 0 krI (zE 20 (.aload_n 0) 1 :: zEf 21 (.getfield 7) 3 11 1 149 (2, 42, 0) :: zEk 24 (.iconst 4) 1 w24 :: es) σ [vR 11 0, vI x1, vI x2, y3] [] = zev cc_X11_tick G 0 krI es σ [vR 11 0, vI x1, vI x2, y3] [vI w24, vR 42 0] := rfl
theorem t_X11_tick_26 {G : Nat → zH → List zAV → List zAV → Option (zH × Int32)} (es : List zEnt) (σ : zH) (x1 : Int32) (x2 : Int32) (xs0 : Int32) (y3 : zAV) (w28 : Int32) : zev cc_X11_tick G 0 krI (zE 26 (.iload_n 2) 1 :: zE 27 .iadd 1 :: zEk 28 (.sipush 9999) 3 w28 :: es) σ [vR 11 0, vI x1, vI x2, y3] [vI xs0] = zev cc_X11_tick G 0 krI es σ [vR 11 0, vI x1, vI x2, y3] [vI w28, vI (xs0 + x2)] := rfl
theorem t_X11_tick_34 {G : Nat → zH → List zAV → List zAV → Option (zH × Int32)} (es : List zEnt) (σ : zH)  (y0 : zAV) (y1 : zAV) (y2 : zAV) (y3 : zAV) (w34 : Int32) : zev cc_X11_tick G 0 krI (zEk 34 (.iconst (-1)) 1 w34 :: es) σ [y0, y1, y2, y3] [] = zev cc_X11_tick G 0 krI es σ [y0, y1, y2, y3] [vI w34] := rfl
theorem t_X11_tick_36 {G : Nat → zH → List zAV → List zAV → Option (zH × Int32)} (es : List zEnt) (σ : zH) (x1 : Int32) (x2 : Int32) (y3 : zAV) (w36 : Int32) : zev cc_X11_tick G 0 krI (zEk 36 (.iconst 0) 1 w36 :: zE 37 (.istore_n 3) 1 :: es) σ [vR 11 0, vI x1, vI x2, y3] [] = zev cc_X11_tick G 0 krI es σ [vR 11 0, vI x1, vI x2, vI w36] [] := rfl
theorem t_X11_tick_38 {G : Nat → zH → List zAV → List zAV → Option (zH × Int32)} (es : List zEnt) (σ : zH) (x1 : Int32) (x2 : Int32) (x3 : Int32)   : zev cc_X11_tick G 0 krI (zE 38 (.iload_n 3) 1 :: zE 39 (.iload_n 2) 1 :: es) σ [vR 11 0, vI x1, vI x2, vI x3] [] = zev cc_X11_tick G 0 krI es σ [vR 11 0, vI x1, vI x2, vI x3] [vI x2, vI x3] := rfl
theorem t_X11_tick_43 {G : Nat → zH → List zAV → List zAV → Option (zH × Int32)} (es : List zEnt) (σ : zH) (x1 : Int32) (x2 : Int32) (x3 : Int32)   : zev cc_X11_tick G 0 krI (zE 43 (.aload_n 0) 1 :: zE 44 (.iload_n 1) 1 :: es) σ [vR 11 0, vI x1, vI x2, vI x3] [] = zev cc_X11_tick G 0 krI es σ [vR 11 0, vI x1, vI x2, vI x3] [vI x1, vR 11 0] := rfl
theorem t_X11_tick_48 {G : Nat → zH → List zAV → List zAV → Option (zH × Int32)} (es : List zEnt) (σ : zH) (x1 : Int32) (x2 : Int32) (x3 : Int32)  (w48 : Int32) : zev cc_X11_tick G 0 krI (zEk 48 (.iinc 3 1) 3 w48 :: es) σ [vR 11 0, vI x1, vI x2, vI x3] [] = zev cc_X11_tick G 0 krI es σ [vR 11 0, vI x1, vI x2, vI (x3 + w48)] [] := rfl
theorem t_X11_tick_54 {G : Nat → zH → List zAV → List zAV → Option (zH × Int32)} (es : List zEnt) (σ : zH)  (y1 : zAV) (y2 : zAV) (y3 : zAV) (w58 : Int32) : zev cc_X11_tick G 0 krI (zE 54 (.aload_n 0) 1 :: zEf 55 (.getfield 7) 3 11 1 149 (2, 42, 0) :: zEk 58 (.iconst 4) 1 w58 :: es) σ [vR 11 0, y1, y2, y3] [] = zev cc_X11_tick G 0 krI es σ [vR 11 0, y1, y2, y3] [vI w58, vR 42 0] := rfl
noncomputable def k_X11_tick_38  : Nat → zH → Int32 → Int32 → Int32 → Option (zH × Int32)
  | 0, _, _, _, _ => none
  | n + 1, σ, x1, x2, x3 =>
    if x3 < x2 then
      (d_X11_quarter σ x1).bind fun σ1 =>
      (k_X11_tick_38 n) σ1 x1 x2 (x3 + (1 : Int32))
    else
      some (σ, (σ.1 42 0 4))
theorem e_X11_tick_38  (n : Nat) (σ : zH) (x1 : Int32) (x2 : Int32) (x3 : Int32)  : k_X11_tick_38 (n + 1) σ x1 x2 x3 = zin cc_X11_tick (fun t => if t = 38 then some (gl_X11_tick_38 (k_X11_tick_38 n)) else none) 0 krI b_X11_tick 38 σ [vR 11 0, vI x1, vI x2, vI x3] [] := by
  rw [k_X11_tick_38]
  refine Eq.symm ((zin_b (es := q_X11_tick_38) rfl).trans ?_)
  refine (t_X11_tick_38 _ _ _ _ _).trans ?_
  refine x_icmp.trans (pif_ge ?_ ?_)
  · refine (zrun_b (es := q_X11_tick_54) rfl rfl).trans ?_
    refine (t_X11_tick_54 _ _ _ _ _ _).trans ?_
    refine ((x_iald (N := 11) rfl rfl).trans (ix_l 4 (by decide +kernel))).trans ?_
    exact x_iret
  · refine (t_X11_tick_43 _ _ _ _ _).trans ?_
    refine (x_callV rfl rfl rfl rfl).trans ((cl_X11_tick_X11_quarter _ _ _).trans ((gr_X11_quarter _ _ _).trans (pbd fun _ => ?_)))
    refine (t_X11_tick_48 _ _ _ _ _ _).trans ?_
    refine x_goto.trans ?_
    exact (zrun_c rfl).trans (glr_X11_tick_38 _ _ _ _ _)
theorem s_X11_tick_38 {X : zX} (hX : zHX X)   : ∀ n σ L st r, gl_X11_tick_38 (k_X11_tick_38 n) σ L st = some r → zGW X 181 krI 38 σ L st r := by
  intro n
  induction n with
  | zero =>
    intro σ L st r h
    unfold gl_X11_tick_38 at h
    split at h <;> cases h
  | succ n ih =>
    intro σ L st r h
    unfold gl_X11_tick_38 at h
    split at h
    · exact zin_ok (hy_X11_tick hX) bk_X11_tick (fun t f hf => by
      by_cases e38 : t = 38
      · rw [if_pos e38] at hf; subst e38; cases hf; exact ih
      rw [if_neg e38] at hf
      cases hf) ((e_X11_tick_38 _ _ _ _ _).symm.trans h)
    · cases h
noncomputable def d_X11_tick (σ : zH) (xa1 : Int32) (xa2 : Int32) : Option (zH × Int32) :=
  (d_X11_isLaw σ xa1).bind fun p1 =>
  if p1.2 = 0 then
    some (p1.1, (-1 : Int32))
  else
    (d_X11_in p1.1 xa2.toInt64 (1 : Int64) (96 : Int64)).bind fun p2 =>
    if p2.2 = 0 then
      some (p2.1, (-1 : Int32))
    else
      if (9999 : Int32) < ((p2.1.1 42 0 4) + xa2) then
        some (p2.1, (-1 : Int32))
      else
        (k_X11_tick_38 zN) p2.1 xa1 xa2 (0 : Int32)
theorem e_X11_tick (σ : zH) (xa1 : Int32) (xa2 : Int32) : d_X11_tick σ xa1 xa2 = zin cc_X11_tick (fun t => if t = 38 then some (gl_X11_tick_38 (k_X11_tick_38 zN)) else none) 0 krI b_X11_tick 0 σ [vR 11 0, vI xa1, vI xa2, vU] [] := by
  unfold d_X11_tick
  refine Eq.symm ((zin_b (es := q_X11_tick_0) rfl).trans ?_)
  refine (t_X11_tick_0 _ _ _ _ _).trans ?_
  refine (x_callV rfl rfl rfl rfl).trans ((cl_X11_tick_X11_isLaw _ _ _).trans ((gr_X11_isLaw _ _ _).trans (pbd fun _ => ?_)))
  refine x_if.trans (pif_eq ?_ ?_)
  · refine (zrun_b (es := q_X11_tick_34) rfl rfl).trans ?_
    refine (t_X11_tick_34 _ _ _ _ _ _ _).trans ?_
    exact x_iret
  · refine (t_X11_tick_8 _ _ _ _ _ _ _).trans ?_
    refine (x_callS rfl rfl rfl rfl).trans ((cl_X11_tick_X11_in _ _ _).trans ((gr_X11_in _ _ _ _ _).trans (pbd fun _ => ?_)))
    refine x_if.trans (pif_eq ?_ ?_)
    · refine (zrun_b (es := q_X11_tick_34) rfl rfl).trans ?_
      refine (t_X11_tick_34 _ _ _ _ _ _ _).trans ?_
      exact x_iret
    · refine (t_X11_tick_20 _ _ _ _ _ _).trans ?_
      refine ((x_iald (N := 11) rfl rfl).trans (ix_l 4 (by decide +kernel))).trans ?_
      refine (t_X11_tick_26 _ _ _ _ _ _ _).trans ?_
      refine x_icmp.trans (pif_le ?_ ?_)
      · refine (zrun_b (es := q_X11_tick_36) rfl rfl).trans ?_
        refine (t_X11_tick_36 _ _ _ _ _ _).trans ?_
        refine x_cut.trans ?_
        exact (zrun_c rfl).trans (glr_X11_tick_38 _ _ _ _ _)
      · refine (t_X11_tick_34 _ _ _ _ _ _ _).trans ?_
        exact x_iret
noncomputable def g_X11_tick {ρ : Type} (σ : zH) (av : List zAV) (q : zH → zAV → Option ρ) : Option ρ := match av with
  | [.inr (.inr (.inl (11, 0))), .inl xa1, .inl xa2] => (d_X11_tick σ xa1 xa2).bind fun p => q p.1 (vI p.2)
  | _ => none
theorem gr_X11_tick {ρ : Type} (σ : zH) (xa1 : Int32) (xa2 : Int32) (q : zH → zAV → Option ρ) : g_X11_tick σ [vR 11 0, vI xa1, vI xa2] q = (d_X11_tick σ xa1 xa2).bind fun p => q p.1 (vI p.2) := rfl
theorem c_X11_tick {ρ : Type} {X : zX} (hX : zHX X) {σ : zH} {av : List zAV} {q : zH → zAV → Option ρ} {r : ρ} (h : g_X11_tick σ av q = some r) (hv : ∀ a ∈ av, zval X a) : zcon X 181 σ av q r := by
  unfold g_X11_tick at h
  split at h
  · exact zcon_I (n := 181) (ml := 4) (rc := 0) (st := 0) (kd := 11) (np := 2) (by decide +kernel) (by decide) ⟨_, _, rfl, rfl⟩ (Nat.le_of_ble_eq_true rfl) hv h (fun y h1 => (zin_ok (hy_X11_tick hX) bk_X11_tick (fun t f hf => by
      by_cases e38 : t = 38
      · rw [if_pos e38] at hf; subst e38; cases hf; exact ((fun σ L st r h => s_X11_tick_38 hX  zN σ L st r h))
      rw [if_neg e38] at hf
      cases hf) ((e_X11_tick _ _ _).symm.trans h1)))
  · cases h
/-! SleepWavesModel.company(II)I -/
def q_X11_company_9 : List zEnt := zE 9 .ireturn 1 :: []
def q_X11_company_8 : List zEnt := zEk 8 (.iconst (-1)) 1 (-1) :: q_X11_company_9
def q_X11_company_5 : List zEnt := zEa 5 (.ifCond .ne 5) 3 10 :: q_X11_company_8
def q_X11_company_2 : List zEnt := zEc 2 (.invokevirtual 426) 3 127 2 167 0 :: q_X11_company_5
def q_X11_company_0 : List zEnt := zE 0 (.aload_n 0) 1 :: zE 1 (.iload_n 1) 1 :: q_X11_company_2
def q_X11_company_11 : List zEnt := (11, (.tableswitch 108 0 7 #[45, 52, 59, 66, 73, 80, 87, 94]), 45, (119, 0, 0, 0), (0, 0, 0), 0, 0, [(0, 56), (1, 63), (2, 70), (3, 77), (4, 84), (5, 91), (6, 98), (7, 105)]) :: []
def q_X11_company_10 : List zEnt := zE 10 (.iload_n 2) 1 :: q_X11_company_11
def q_X11_company_62 : List zEnt := zE 62 .ireturn 1 :: []
def q_X11_company_61 : List zEnt := zE 61 .iaload 1 :: q_X11_company_62
def q_X11_company_56 : List zEnt := zE 56 (.aload_n 0) 1 :: zEf 57 (.getfield 70) 3 11 21 169 (2, 62, 0) :: zE 60 (.iload_n 1) 1 :: q_X11_company_61
def q_X11_company_69 : List zEnt := zE 69 .ireturn 1 :: []
def q_X11_company_68 : List zEnt := zE 68 .iaload 1 :: q_X11_company_69
def q_X11_company_63 : List zEnt := zE 63 (.aload_n 0) 1 :: zEf 64 (.getfield 73) 3 11 22 170 (2, 63, 0) :: zE 67 (.iload_n 1) 1 :: q_X11_company_68
def q_X11_company_76 : List zEnt := zE 76 .ireturn 1 :: []
def q_X11_company_75 : List zEnt := zE 75 .iaload 1 :: q_X11_company_76
def q_X11_company_70 : List zEnt := zE 70 (.aload_n 0) 1 :: zEf 71 (.getfield 76) 3 11 23 171 (2, 64, 0) :: zE 74 (.iload_n 1) 1 :: q_X11_company_75
def q_X11_company_83 : List zEnt := zE 83 .ireturn 1 :: []
def q_X11_company_82 : List zEnt := zE 82 .iaload 1 :: q_X11_company_83
def q_X11_company_77 : List zEnt := zE 77 (.aload_n 0) 1 :: zEf 78 (.getfield 13) 3 11 2 150 (2, 43, 0) :: zE 81 (.iload_n 1) 1 :: q_X11_company_82
def q_X11_company_90 : List zEnt := zE 90 .ireturn 1 :: []
def q_X11_company_89 : List zEnt := zE 89 .iaload 1 :: q_X11_company_90
def q_X11_company_84 : List zEnt := zE 84 (.aload_n 0) 1 :: zEf 85 (.getfield 16) 3 11 3 151 (2, 44, 0) :: zE 88 (.iload_n 1) 1 :: q_X11_company_89
def q_X11_company_97 : List zEnt := zE 97 .ireturn 1 :: []
def q_X11_company_96 : List zEnt := zE 96 .iaload 1 :: q_X11_company_97
def q_X11_company_91 : List zEnt := zE 91 (.aload_n 0) 1 :: zEf 92 (.getfield 19) 3 11 4 152 (2, 45, 0) :: zE 95 (.iload_n 1) 1 :: q_X11_company_96
def q_X11_company_104 : List zEnt := zE 104 .ireturn 1 :: []
def q_X11_company_103 : List zEnt := zE 103 .iaload 1 :: q_X11_company_104
def q_X11_company_98 : List zEnt := zE 98 (.aload_n 0) 1 :: zEf 99 (.getfield 22) 3 11 5 153 (2, 46, 0) :: zE 102 (.iload_n 1) 1 :: q_X11_company_103
def q_X11_company_114 : List zEnt := zEa 114 (.goto 4) 3 118 :: []
def q_X11_company_113 : List zEnt := zEk 113 (.iconst 1) 1 1 :: q_X11_company_114
def q_X11_company_110 : List zEnt := zEa 110 (.ifCond .eq 7) 3 117 :: q_X11_company_113
def q_X11_company_107 : List zEnt := zEc 107 (.invokevirtual 376) 3 130 2 149 0 :: q_X11_company_110
def q_X11_company_105 : List zEnt := zE 105 (.aload_n 0) 1 :: zE 106 (.iload_n 1) 1 :: q_X11_company_107
def q_X11_company_118 : List zEnt := zE 118 .ireturn 1 :: []
def q_X11_company_117 : List zEnt := zEk 117 (.iconst 0) 1 0 :: q_X11_company_118
def q_X11_company_120 : List zEnt := zE 120 .ireturn 1 :: []
def q_X11_company_119 : List zEnt := zEk 119 (.iconst (-1)) 1 (-1) :: q_X11_company_120
def b_X11_company : List (Nat × List zEnt) := [(0, q_X11_company_0), (10, q_X11_company_10), (56, q_X11_company_56), (63, q_X11_company_63), (70, q_X11_company_70), (77, q_X11_company_77), (84, q_X11_company_84), (91, q_X11_company_91), (98, q_X11_company_98), (105, q_X11_company_105), (117, q_X11_company_117), (118, q_X11_company_118), (119, q_X11_company_119)]
theorem bk_X11_company : zchB 182 b_X11_company = true := by decide +kernel
noncomputable def cc_X11_company {ρ : Type} : Nat → zH → List zAV → (zH → zAV → Option ρ) → Option ρ := fun n σ av q => if n = 127 then g_X11_isCompany σ av q else if n = 130 then g_X11_hasDuty σ av q else none
theorem cs_X11_company {ρ : Type} {X : zX} (hX : zHX X) : zCS X (cc_X11_company (ρ := ρ)) := by
  intro n σ av q r h hv
  unfold cc_X11_company at h
  by_cases e_X11_isCompany : n = 127
  · rw [if_pos e_X11_isCompany] at h
    subst e_X11_isCompany
    exact c_X11_isCompany hX h hv
  rw [if_neg e_X11_isCompany] at h
  by_cases e_X11_hasDuty : n = 130
  · rw [if_pos e_X11_hasDuty] at h
    subst e_X11_hasDuty
    exact c_X11_hasDuty hX h hv
  rw [if_neg e_X11_hasDuty] at h
  cases h
theorem cl_X11_company_X11_isCompany {ρ : Type} (σ : zH) (av : List zAV) (q : zH → zAV → Option ρ) : cc_X11_company 127 σ av q = g_X11_isCompany σ av q := rfl
theorem cl_X11_company_X11_hasDuty {ρ : Type} (σ : zH) (av : List zAV) (q : zH → zAV → Option ρ) : cc_X11_company 130 σ av q = g_X11_hasDuty σ av q := rfl
theorem hy_X11_company {ρ : Type} {X : zX} (hX : zHX X) : zHY X 182 (cc_X11_company (ρ := ρ)) := zHX.hY hX (cs_X11_company hX) (zmok_all 182 (by decide))
theorem t_X11_company_0 {G : Nat → zH → List zAV → List zAV → Option (zH × Int32)} (es : List zEnt) (σ : zH) (x1 : Int32) (x2 : Int32)   : zev cc_X11_company G 0 krI (zE 0 (.aload_n 0) 1 :: zE 1 (.iload_n 1) 1 :: es) σ [vR 11 0, vI x1, vI x2] [] = zev cc_X11_company G 0 krI es σ [vR 11 0, vI x1, vI x2] [vI x1, vR 11 0] := rfl
theorem t_X11_company_8 {G : Nat → zH → List zAV → List zAV → Option (zH × Int32)} (es : List zEnt) (σ : zH)  (y0 : zAV) (y1 : zAV) (y2 : zAV) (w8 : Int32) : zev cc_X11_company G 0 krI (zEk 8 (.iconst (-1)) 1 w8 :: es) σ [y0, y1, y2] [] = zev cc_X11_company G 0 krI es σ [y0, y1, y2] [vI w8] := rfl
theorem t_X11_company_10 {G : Nat → zH → List zAV → List zAV → Option (zH × Int32)} (es : List zEnt) (σ : zH) (x1 : Int32) (x2 : Int32)   : zev cc_X11_company G 0 krI (zE 10 (.iload_n 2) 1 :: es) σ [vR 11 0, vI x1, vI x2] [] = zev cc_X11_company G 0 krI es σ [vR 11 0, vI x1, vI x2] [vI x2] := rfl
theorem t_X11_company_56 {G : Nat → zH → List zAV → List zAV → Option (zH × Int32)} (es : List zEnt) (σ : zH) (x1 : Int32) (y2 : zAV)  : zev cc_X11_company G 0 krI (zE 56 (.aload_n 0) 1 :: zEf 57 (.getfield 70) 3 11 21 169 (2, 62, 0) :: zE 60 (.iload_n 1) 1 :: es) σ [vR 11 0, vI x1, y2] [] = zev cc_X11_company G 0 krI es σ [vR 11 0, vI x1, y2] [vI x1, vR 62 0] := rfl
theorem t_X11_company_63 {G : Nat → zH → List zAV → List zAV → Option (zH × Int32)} (es : List zEnt) (σ : zH) (x1 : Int32) (y2 : zAV)  : zev cc_X11_company G 0 krI (zE 63 (.aload_n 0) 1 :: zEf 64 (.getfield 73) 3 11 22 170 (2, 63, 0) :: zE 67 (.iload_n 1) 1 :: es) σ [vR 11 0, vI x1, y2] [] = zev cc_X11_company G 0 krI es σ [vR 11 0, vI x1, y2] [vI x1, vR 63 0] := rfl
theorem t_X11_company_70 {G : Nat → zH → List zAV → List zAV → Option (zH × Int32)} (es : List zEnt) (σ : zH) (x1 : Int32) (y2 : zAV)  : zev cc_X11_company G 0 krI (zE 70 (.aload_n 0) 1 :: zEf 71 (.getfield 76) 3 11 23 171 (2, 64, 0) :: zE 74 (.iload_n 1) 1 :: es) σ [vR 11 0, vI x1, y2] [] = zev cc_X11_company G 0 krI es σ [vR 11 0, vI x1, y2] [vI x1, vR 64 0] := rfl
theorem t_X11_company_77 {G : Nat → zH → List zAV → List zAV → Option (zH × Int32)} (es : List zEnt) (σ : zH) (x1 : Int32) (y2 : zAV)  : zev cc_X11_company G 0 krI (zE 77 (.aload_n 0) 1 :: zEf 78 (.getfield 13) 3 11 2 150 (2, 43, 0) :: zE 81 (.iload_n 1) 1 :: es) σ [vR 11 0, vI x1, y2] [] = zev cc_X11_company G 0 krI es σ [vR 11 0, vI x1, y2] [vI x1, vR 43 0] := rfl
theorem t_X11_company_84 {G : Nat → zH → List zAV → List zAV → Option (zH × Int32)} (es : List zEnt) (σ : zH) (x1 : Int32) (y2 : zAV)  : zev cc_X11_company G 0 krI (zE 84 (.aload_n 0) 1 :: zEf 85 (.getfield 16) 3 11 3 151 (2, 44, 0) :: zE 88 (.iload_n 1) 1 :: es) σ [vR 11 0, vI x1, y2] [] = zev cc_X11_company G 0 krI es σ [vR 11 0, vI x1, y2] [vI x1, vR 44 0] := rfl
theorem t_X11_company_91 {G : Nat → zH → List zAV → List zAV → Option (zH × Int32)} (es : List zEnt) (σ : zH) (x1 : Int32) (y2 : zAV)  : zev cc_X11_company G 0 krI (zE 91 (.aload_n 0) 1 :: zEf 92 (.getfield 19) 3 11 4 152 (2, 45, 0) :: zE 95 (.iload_n 1) 1 :: es) σ [vR 11 0, vI x1, y2] [] = zev cc_X11_company G 0 krI es σ [vR 11 0, vI x1, y2] [vI x1, vR 45 0] := rfl
theorem t_X11_company_98 {G : Nat → zH → List zAV → List zAV → Option (zH × Int32)} (es : List zEnt) (σ : zH) (x1 : Int32) (y2 : zAV)  : zev cc_X11_company G 0 krI (zE 98 (.aload_n 0) 1 :: zEf 99 (.getfield 22) 3 11 5 153 (2, 46, 0) :: zE 102 (.iload_n 1) 1 :: es) σ [vR 11 0, vI x1, y2] [] = zev cc_X11_company G 0 krI es σ [vR 11 0, vI x1, y2] [vI x1, vR 46 0] := rfl
theorem t_X11_company_105 {G : Nat → zH → List zAV → List zAV → Option (zH × Int32)} (es : List zEnt) (σ : zH) (x1 : Int32) (y2 : zAV)  : zev cc_X11_company G 0 krI (zE 105 (.aload_n 0) 1 :: zE 106 (.iload_n 1) 1 :: es) σ [vR 11 0, vI x1, y2] [] = zev cc_X11_company G 0 krI es σ [vR 11 0, vI x1, y2] [vI x1, vR 11 0] := rfl
theorem t_X11_company_113 {G : Nat → zH → List zAV → List zAV → Option (zH × Int32)} (es : List zEnt) (σ : zH)  (y0 : zAV) (y1 : zAV) (y2 : zAV) (w113 : Int32) : zev cc_X11_company G 0 krI (zEk 113 (.iconst 1) 1 w113 :: es) σ [y0, y1, y2] [] = zev cc_X11_company G 0 krI es σ [y0, y1, y2] [vI w113] := rfl
theorem t_X11_company_117 {G : Nat → zH → List zAV → List zAV → Option (zH × Int32)} (es : List zEnt) (σ : zH)  (y0 : zAV) (y1 : zAV) (y2 : zAV) (w117 : Int32) : zev cc_X11_company G 0 krI (zEk 117 (.iconst 0) 1 w117 :: es) σ [y0, y1, y2] [] = zev cc_X11_company G 0 krI es σ [y0, y1, y2] [vI w117] := rfl
theorem t_X11_company_119 {G : Nat → zH → List zAV → List zAV → Option (zH × Int32)} (es : List zEnt) (σ : zH)  (y0 : zAV) (y1 : zAV) (y2 : zAV) (w119 : Int32) : zev cc_X11_company G 0 krI (zEk 119 (.iconst (-1)) 1 w119 :: es) σ [y0, y1, y2] [] = zev cc_X11_company G 0 krI es σ [y0, y1, y2] [vI w119] := rfl
noncomputable def d_X11_company (σ : zH) (xa1 : Int32) (xa2 : Int32) : Option (zH × Int32) :=
  (d_X11_isCompany σ xa1).bind fun p1 =>
  if p1.2 = 0 then
    some (p1.1, (-1 : Int32))
  else
    if xa2 = (0 : Int32) then
      ix xa1 12 fun j2 =>
      some (p1.1, (p1.1.1 62 0 j2))
    else if xa2 = (1 : Int32) then
      ix xa1 12 fun j3 =>
      some (p1.1, (p1.1.1 63 0 j3))
    else if xa2 = (2 : Int32) then
      ix xa1 12 fun j4 =>
      some (p1.1, (p1.1.1 64 0 j4))
    else if xa2 = (3 : Int32) then
      ix xa1 12 fun j5 =>
      some (p1.1, (p1.1.1 43 0 j5))
    else if xa2 = (4 : Int32) then
      ix xa1 12 fun j6 =>
      some (p1.1, (p1.1.1 44 0 j6))
    else if xa2 = (5 : Int32) then
      ix xa1 12 fun j7 =>
      some (p1.1, (p1.1.1 45 0 j7))
    else if xa2 = (6 : Int32) then
      ix xa1 12 fun j8 =>
      some (p1.1, (p1.1.1 46 0 j8))
    else if xa2 = (7 : Int32) then
      (d_X11_hasDuty p1.1 xa1).bind fun p9 =>
      if p9.2 = 0 then
        some (p9.1, (0 : Int32))
      else
        some (p9.1, (1 : Int32))
    else 
      some (p1.1, (-1 : Int32))
theorem e_X11_company (σ : zH) (xa1 : Int32) (xa2 : Int32) : d_X11_company σ xa1 xa2 = zin cc_X11_company (fun t => none) 0 krI b_X11_company 0 σ [vR 11 0, vI xa1, vI xa2] [] := by
  unfold d_X11_company
  refine Eq.symm ((zin_b (es := q_X11_company_0) rfl).trans ?_)
  refine (t_X11_company_0 _ _ _ _).trans ?_
  refine (x_callV rfl rfl rfl rfl).trans ((cl_X11_company_X11_isCompany _ _ _).trans ((gr_X11_isCompany _ _ _).trans (pbd fun _ => ?_)))
  refine x_if.trans (pif_ne ?_ ?_)
  · refine (zrun_b (es := q_X11_company_10) rfl rfl).trans ?_
    refine (t_X11_company_10 _ _ _ _).trans ?_
    refine x_tsw.trans ?_
    refine zsw_c ?_ ?_
    · refine (zrun_b (es := q_X11_company_56) rfl rfl).trans ?_
      refine (t_X11_company_56 _ _ _ _).trans ?_
      refine (x_iald (N := 12) rfl rfl).trans (pix fun _ => ?_)
      exact x_iret
    refine zsw_c ?_ ?_
    · refine (zrun_b (es := q_X11_company_63) rfl rfl).trans ?_
      refine (t_X11_company_63 _ _ _ _).trans ?_
      refine (x_iald (N := 12) rfl rfl).trans (pix fun _ => ?_)
      exact x_iret
    refine zsw_c ?_ ?_
    · refine (zrun_b (es := q_X11_company_70) rfl rfl).trans ?_
      refine (t_X11_company_70 _ _ _ _).trans ?_
      refine (x_iald (N := 12) rfl rfl).trans (pix fun _ => ?_)
      exact x_iret
    refine zsw_c ?_ ?_
    · refine (zrun_b (es := q_X11_company_77) rfl rfl).trans ?_
      refine (t_X11_company_77 _ _ _ _).trans ?_
      refine (x_iald (N := 12) rfl rfl).trans (pix fun _ => ?_)
      exact x_iret
    refine zsw_c ?_ ?_
    · refine (zrun_b (es := q_X11_company_84) rfl rfl).trans ?_
      refine (t_X11_company_84 _ _ _ _).trans ?_
      refine (x_iald (N := 12) rfl rfl).trans (pix fun _ => ?_)
      exact x_iret
    refine zsw_c ?_ ?_
    · refine (zrun_b (es := q_X11_company_91) rfl rfl).trans ?_
      refine (t_X11_company_91 _ _ _ _).trans ?_
      refine (x_iald (N := 12) rfl rfl).trans (pix fun _ => ?_)
      exact x_iret
    refine zsw_c ?_ ?_
    · refine (zrun_b (es := q_X11_company_98) rfl rfl).trans ?_
      refine (t_X11_company_98 _ _ _ _).trans ?_
      refine (x_iald (N := 12) rfl rfl).trans (pix fun _ => ?_)
      exact x_iret
    refine zsw_c ?_ ?_
    · refine (zrun_b (es := q_X11_company_105) rfl rfl).trans ?_
      refine (t_X11_company_105 _ _ _ _).trans ?_
      refine (x_callV rfl rfl rfl rfl).trans ((cl_X11_company_X11_hasDuty _ _ _).trans ((gr_X11_hasDuty _ _ _).trans (pbd fun _ => ?_)))
      refine x_if.trans (pif_eq ?_ ?_)
      · refine (zrun_b (es := q_X11_company_117) rfl rfl).trans ?_
        refine (t_X11_company_117 _ _ _ _ _ _).trans ?_
        exact x_iret
      · refine (t_X11_company_113 _ _ _ _ _ _).trans ?_
        refine x_goto.trans ?_
        refine (zrun_b (es := q_X11_company_118) rfl rfl).trans ?_
        exact x_iret
    refine zsw_n ?_
    refine (zrun_b (es := q_X11_company_119) rfl rfl).trans ?_
    refine (t_X11_company_119 _ _ _ _ _ _).trans ?_
    exact x_iret
  · refine (t_X11_company_8 _ _ _ _ _ _).trans ?_
    exact x_iret
noncomputable def g_X11_company {ρ : Type} (σ : zH) (av : List zAV) (q : zH → zAV → Option ρ) : Option ρ := match av with
  | [.inr (.inr (.inl (11, 0))), .inl xa1, .inl xa2] => (d_X11_company σ xa1 xa2).bind fun p => q p.1 (vI p.2)
  | _ => none
theorem gr_X11_company {ρ : Type} (σ : zH) (xa1 : Int32) (xa2 : Int32) (q : zH → zAV → Option ρ) : g_X11_company σ [vR 11 0, vI xa1, vI xa2] q = (d_X11_company σ xa1 xa2).bind fun p => q p.1 (vI p.2) := rfl
theorem c_X11_company {ρ : Type} {X : zX} (hX : zHX X) {σ : zH} {av : List zAV} {q : zH → zAV → Option ρ} {r : ρ} (h : g_X11_company σ av q = some r) (hv : ∀ a ∈ av, zval X a) : zcon X 182 σ av q r := by
  unfold g_X11_company at h
  split at h
  · exact zcon_I (n := 182) (ml := 3) (rc := 0) (st := 0) (kd := 11) (np := 2) (by decide +kernel) (by decide) ⟨_, _, rfl, rfl⟩ (Nat.le_of_ble_eq_true rfl) hv h (fun y h1 => (zin_ok (hy_X11_company hX) bk_X11_company (fun t f hf => by
      cases hf) ((e_X11_company _ _ _).symm.trans h1)))
  · cases h
/-! SleepWavesModel.lie(IZ)Z -/
def q_X11_lie_19 : List zEnt := zEa 19 (.goto 4) 3 23 :: []
def q_X11_lie_18 : List zEnt := zEk 18 (.iconst 1) 1 1 :: q_X11_lie_19
def q_X11_lie_15 : List zEnt := zEa 15 (.if_icmp .ne 7) 3 22 :: q_X11_lie_18
def q_X11_lie_14 : List zEnt := zEk 14 (.iconst 1) 1 1 :: q_X11_lie_15
def q_X11_lie_13 : List zEnt := zE 13 .iaload 1 :: q_X11_lie_14
def q_X11_lie_8 : List zEnt := zE 8 (.aload_n 0) 1 :: zEf 9 (.getfield 70) 3 11 21 169 (2, 62, 0) :: zE 12 (.iload_n 1) 1 :: q_X11_lie_13
def q_X11_lie_5 : List zEnt := zEa 5 (.ifCond .eq 34) 3 39 :: q_X11_lie_8
def q_X11_lie_2 : List zEnt := zEc 2 (.invokevirtual 426) 3 127 2 167 0 :: q_X11_lie_5
def q_X11_lie_0 : List zEnt := zE 0 (.aload_n 0) 1 :: zE 1 (.iload_n 1) 1 :: q_X11_lie_2
def q_X11_lie_22 : List zEnt := zEk 22 (.iconst 0) 1 0 :: [zE 23 .nop 0]
def q_X11_lie_40 : List zEnt := zE 40 .ireturn 1 :: []
def q_X11_lie_39 : List zEnt := zEk 39 (.iconst 0) 1 0 :: q_X11_lie_40
def q_X11_lie_36 : List zEnt := zEa 36 (.ifCond .ne 5) 3 41 :: q_X11_lie_39
def q_X11_lie_33 : List zEnt := zEc 33 (.invokevirtual 383) 3 169 2 151 0 :: q_X11_lie_36
def q_X11_lie_31 : List zEnt := zE 31 (.aload_n 0) 1 :: zE 32 (.iload_n 1) 1 :: q_X11_lie_33
def q_X11_lie_28 : List zEnt := zEa 28 (.ifCond .eq 13) 3 41 :: q_X11_lie_31
def q_X11_lie_27 : List zEnt := zE 27 (.iload_n 2) 1 :: q_X11_lie_28
def q_X11_lie_24 : List zEnt := zEa 24 (.if_icmp .eq 15) 3 39 :: q_X11_lie_27
def q_X11_lie_23 : List zEnt := zE 23 (.iload_n 2) 1 :: q_X11_lie_24
def q_X11_lie_48 : List zEnt := zEa 48 (.goto 4) 3 52 :: []
def q_X11_lie_47 : List zEnt := zEk 47 (.iconst 1) 1 1 :: q_X11_lie_48
def q_X11_lie_44 : List zEnt := zEa 44 (.ifCond .eq 7) 3 51 :: q_X11_lie_47
def q_X11_lie_41 : List zEnt := zE 41 (.aload_n 0) 1 :: zE 42 (.iload_n 1) 1 :: zE 43 (.iload_n 2) 1 :: q_X11_lie_44
def q_X11_lie_51 : List zEnt := zEk 51 (.iconst 0) 1 0 :: [zE 52 .nop 0]
def q_X11_lie_58 : List zEnt := zE 58 .ireturn 1 :: []
def q_X11_lie_57 : List zEnt := zEk 57 (.iconst 1) 1 1 :: q_X11_lie_58
def q_X11_lie_54 : List zEnt := zEc 54 (.invokevirtual 396) 3 171 5 161 1 :: q_X11_lie_57
def q_X11_lie_52 : List zEnt := zEk 52 (.iconst 1) 1 1 :: zEk 53 (.iconst (-1)) 1 (-1) :: q_X11_lie_54
def b_X11_lie : List (Nat × List zEnt) := [(0, q_X11_lie_0), (22, q_X11_lie_22), (23, q_X11_lie_23), (39, q_X11_lie_39), (41, q_X11_lie_41), (51, q_X11_lie_51), (52, q_X11_lie_52)]
theorem bk_X11_lie : zchB 183 b_X11_lie = true := by decide +kernel
noncomputable def cc_X11_lie {ρ : Type} : Nat → zH → List zAV → (zH → zAV → Option ρ) → Option ρ := fun n σ av q => if n = 127 then g_X11_isCompany σ av q else if n = 169 then g_X11_isFree σ av q else if n = 171 then g_X11_changes σ av q else none
theorem cs_X11_lie {ρ : Type} {X : zX} (hX : zHX X) : zCS X (cc_X11_lie (ρ := ρ)) := by
  intro n σ av q r h hv
  unfold cc_X11_lie at h
  by_cases e_X11_isCompany : n = 127
  · rw [if_pos e_X11_isCompany] at h
    subst e_X11_isCompany
    exact c_X11_isCompany hX h hv
  rw [if_neg e_X11_isCompany] at h
  by_cases e_X11_isFree : n = 169
  · rw [if_pos e_X11_isFree] at h
    subst e_X11_isFree
    exact c_X11_isFree hX h hv
  rw [if_neg e_X11_isFree] at h
  by_cases e_X11_changes : n = 171
  · rw [if_pos e_X11_changes] at h
    subst e_X11_changes
    exact c_X11_changes hX h hv
  rw [if_neg e_X11_changes] at h
  cases h
theorem cl_X11_lie_X11_isCompany {ρ : Type} (σ : zH) (av : List zAV) (q : zH → zAV → Option ρ) : cc_X11_lie 127 σ av q = g_X11_isCompany σ av q := rfl
theorem cl_X11_lie_X11_isFree {ρ : Type} (σ : zH) (av : List zAV) (q : zH → zAV → Option ρ) : cc_X11_lie 169 σ av q = g_X11_isFree σ av q := rfl
theorem cl_X11_lie_X11_changes {ρ : Type} (σ : zH) (av : List zAV) (q : zH → zAV → Option ρ) : cc_X11_lie 171 σ av q = g_X11_changes σ av q := rfl
theorem hy_X11_lie {ρ : Type} {X : zX} (hX : zHX X) : zHY X 183 (cc_X11_lie (ρ := ρ)) := zHX.hY hX (cs_X11_lie hX) (zmok_all 183 (by decide))
def gl_X11_lie_23 {ρ : Type} (f : zH → Int32 → Int32 → Int32 → Option ρ) (σ : zH) (L st : List zAV) : Option ρ := match L, st with
  | [.inr (.inr (.inl (11, 0))), .inl x1, .inl x2], [.inl xs0] => f σ x1 x2 xs0
  | _, _ => none
def gl_X11_lie_41 {ρ : Type} (f : zH → Int32 → Int32 → Option ρ) (σ : zH) (L st : List zAV) : Option ρ := match L, st with
  | [.inr (.inr (.inl (11, 0))), .inl x1, .inl x2], [] => f σ x1 x2
  | _, _ => none
def gl_X11_lie_52 {ρ : Type} (f : zH → Int32 → Int32 → Option ρ) (σ : zH) (L st : List zAV) : Option ρ := match L, st with
  | [_, _, _], [.inl xs2, .inl xs1, .inr (.inr (.inl (11, 0)))] => f σ xs1 xs2
  | _, _ => none
theorem glr_X11_lie_23 {ρ : Type} (f : zH → Int32 → Int32 → Int32 → Option ρ) (σ : zH) (x1 : Int32) (x2 : Int32) (xs0 : Int32)  : gl_X11_lie_23 f σ [vR 11 0, vI x1, vI x2] [vI xs0] = f σ x1 x2 xs0 := rfl
theorem glr_X11_lie_41 {ρ : Type} (f : zH → Int32 → Int32 → Option ρ) (σ : zH) (x1 : Int32) (x2 : Int32)  : gl_X11_lie_41 f σ [vR 11 0, vI x1, vI x2] [] = f σ x1 x2 := rfl
theorem glr_X11_lie_52 {ρ : Type} (f : zH → Int32 → Int32 → Option ρ) (σ : zH) (xs1 : Int32) (xs2 : Int32) (y0 : zAV) (y1 : zAV) (y2 : zAV) : gl_X11_lie_52 f σ [y0, y1, y2] [vI xs2, vI xs1, vR 11 0] = f σ xs1 xs2 := rfl
theorem t_X11_lie_0 {G : Nat → zH → List zAV → List zAV → Option (zH × Int32)} (es : List zEnt) (σ : zH) (x1 : Int32) (x2 : Int32)   : zev cc_X11_lie G 1 krI (zE 0 (.aload_n 0) 1 :: zE 1 (.iload_n 1) 1 :: es) σ [vR 11 0, vI x1, vI x2] [] = zev cc_X11_lie G 1 krI es σ [vR 11 0, vI x1, vI x2] [vI x1, vR 11 0] := rfl
theorem t_X11_lie_8 {G : Nat → zH → List zAV → List zAV → Option (zH × Int32)} (es : List zEnt) (σ : zH) (x1 : Int32) (x2 : Int32)   : zev cc_X11_lie G 1 krI (zE 8 (.aload_n 0) 1 :: zEf 9 (.getfield 70) 3 11 21 169 (2, 62, 0) :: zE 12 (.iload_n 1) 1 :: es) σ [vR 11 0, vI x1, vI x2] [] = zev cc_X11_lie G 1 krI es σ [vR 11 0, vI x1, vI x2] [vI x1, vR 62 0] := rfl
theorem t_X11_lie_14 {G : Nat → zH → List zAV → List zAV → Option (zH × Int32)} (es : List zEnt) (σ : zH) (x1 : Int32) (x2 : Int32) (xs0 : Int32)  (w14 : Int32) : zev cc_X11_lie G 1 krI (zEk 14 (.iconst 1) 1 w14 :: es) σ [vR 11 0, vI x1, vI x2] [vI xs0] = zev cc_X11_lie G 1 krI es σ [vR 11 0, vI x1, vI x2] [vI w14, vI xs0] := rfl
theorem t_X11_lie_18 {G : Nat → zH → List zAV → List zAV → Option (zH × Int32)} (es : List zEnt) (σ : zH) (x1 : Int32) (x2 : Int32)  (w18 : Int32) : zev cc_X11_lie G 1 krI (zEk 18 (.iconst 1) 1 w18 :: es) σ [vR 11 0, vI x1, vI x2] [] = zev cc_X11_lie G 1 krI es σ [vR 11 0, vI x1, vI x2] [vI w18] := rfl
theorem t_X11_lie_22 {G : Nat → zH → List zAV → List zAV → Option (zH × Int32)} (es : List zEnt) (σ : zH) (x1 : Int32) (x2 : Int32)  (w22 : Int32) : zev cc_X11_lie G 1 krI (zEk 22 (.iconst 0) 1 w22 :: es) σ [vR 11 0, vI x1, vI x2] [] = zev cc_X11_lie G 1 krI es σ [vR 11 0, vI x1, vI x2] [vI w22] := rfl
theorem t_X11_lie_23 {G : Nat → zH → List zAV → List zAV → Option (zH × Int32)} (es : List zEnt) (σ : zH) (x1 : Int32) (x2 : Int32) (xs0 : Int32)   : zev cc_X11_lie G 1 krI (zE 23 (.iload_n 2) 1 :: es) σ [vR 11 0, vI x1, vI x2] [vI xs0] = zev cc_X11_lie G 1 krI es σ [vR 11 0, vI x1, vI x2] [vI x2, vI xs0] := rfl
theorem t_X11_lie_27 {G : Nat → zH → List zAV → List zAV → Option (zH × Int32)} (es : List zEnt) (σ : zH) (x1 : Int32) (x2 : Int32)   : zev cc_X11_lie G 1 krI (zE 27 (.iload_n 2) 1 :: es) σ [vR 11 0, vI x1, vI x2] [] = zev cc_X11_lie G 1 krI es σ [vR 11 0, vI x1, vI x2] [vI x2] := rfl
theorem t_X11_lie_31 {G : Nat → zH → List zAV → List zAV → Option (zH × Int32)} (es : List zEnt) (σ : zH) (x1 : Int32) (x2 : Int32)   : zev cc_X11_lie G 1 krI (zE 31 (.aload_n 0) 1 :: zE 32 (.iload_n 1) 1 :: es) σ [vR 11 0, vI x1, vI x2] [] = zev cc_X11_lie G 1 krI es σ [vR 11 0, vI x1, vI x2] [vI x1, vR 11 0] := rfl
theorem t_X11_lie_39 {G : Nat → zH → List zAV → List zAV → Option (zH × Int32)} (es : List zEnt) (σ : zH)  (y0 : zAV) (y1 : zAV) (y2 : zAV) (w39 : Int32) : zev cc_X11_lie G 1 krI (zEk 39 (.iconst 0) 1 w39 :: es) σ [y0, y1, y2] [] = zev cc_X11_lie G 1 krI es σ [y0, y1, y2] [vI w39] := rfl
theorem t_X11_lie_41 {G : Nat → zH → List zAV → List zAV → Option (zH × Int32)} (es : List zEnt) (σ : zH) (x1 : Int32) (x2 : Int32)   : zev cc_X11_lie G 1 krI (zE 41 (.aload_n 0) 1 :: zE 42 (.iload_n 1) 1 :: zE 43 (.iload_n 2) 1 :: es) σ [vR 11 0, vI x1, vI x2] [] = zev cc_X11_lie G 1 krI es σ [vR 11 0, vI x1, vI x2] [vI x2, vI x1, vR 11 0] := rfl
theorem t_X11_lie_47 {G : Nat → zH → List zAV → List zAV → Option (zH × Int32)} (es : List zEnt) (σ : zH) (xs1 : Int32) (y0 : zAV) (y1 : zAV) (y2 : zAV) (w47 : Int32) : zev cc_X11_lie G 1 krI (zEk 47 (.iconst 1) 1 w47 :: es) σ [y0, y1, y2] [vI xs1, vR 11 0] = zev cc_X11_lie G 1 krI es σ [y0, y1, y2] [vI w47, vI xs1, vR 11 0] := rfl
theorem t_X11_lie_51 {G : Nat → zH → List zAV → List zAV → Option (zH × Int32)} (es : List zEnt) (σ : zH) (xs1 : Int32) (y0 : zAV) (y1 : zAV) (y2 : zAV) (w51 : Int32) : zev cc_X11_lie G 1 krI (zEk 51 (.iconst 0) 1 w51 :: es) σ [y0, y1, y2] [vI xs1, vR 11 0] = zev cc_X11_lie G 1 krI es σ [y0, y1, y2] [vI w51, vI xs1, vR 11 0] := rfl
theorem t_X11_lie_52 {G : Nat → zH → List zAV → List zAV → Option (zH × Int32)} (es : List zEnt) (σ : zH) (xs1 : Int32) (xs2 : Int32) (y0 : zAV) (y1 : zAV) (y2 : zAV) (w52 : Int32) (w53 : Int32) : zev cc_X11_lie G 1 krI (zEk 52 (.iconst 1) 1 w52 :: zEk 53 (.iconst (-1)) 1 w53 :: es) σ [y0, y1, y2] [vI xs2, vI xs1, vR 11 0] = zev cc_X11_lie G 1 krI es σ [y0, y1, y2] [vI w53, vI w52, vI xs2, vI xs1, vR 11 0] := rfl
theorem t_X11_lie_57 {G : Nat → zH → List zAV → List zAV → Option (zH × Int32)} (es : List zEnt) (σ : zH)  (y0 : zAV) (y1 : zAV) (y2 : zAV) (w57 : Int32) : zev cc_X11_lie G 1 krI (zEk 57 (.iconst 1) 1 w57 :: es) σ [y0, y1, y2] [] = zev cc_X11_lie G 1 krI es σ [y0, y1, y2] [vI w57] := rfl
noncomputable def j_X11_lie_52  (σ : zH) (xs1 : Int32) (xs2 : Int32) : Option (zH × Int32) :=
  (d_X11_changes σ xs1 xs2 (1 : Int32) (-1 : Int32)).bind fun σ1 =>
  some (σ1, (1 : Int32))
theorem e_X11_lie_52  (σ : zH) (xs1 : Int32) (xs2 : Int32) (y0 : zAV) (y1 : zAV) (y2 : zAV) : j_X11_lie_52 σ xs1 xs2 = zin cc_X11_lie (fun t => none) 1 krI b_X11_lie 52 σ [y0, y1, y2] [vI xs2, vI xs1, vR 11 0] := by
  unfold j_X11_lie_52
  refine Eq.symm ((zin_b (es := q_X11_lie_52) rfl).trans ?_)
  refine (t_X11_lie_52 _ _ _ _ _ _ _ _ _).trans ?_
  refine (x_callV rfl rfl rfl rfl).trans ((cl_X11_lie_X11_changes _ _ _).trans ((gr_X11_changes _ _ _ _ _ _).trans (pbd fun _ => ?_)))
  refine (t_X11_lie_57 _ _ _ _ _ _).trans ?_
  exact x_zret.trans (tv_l (by decide +kernel))
theorem s_X11_lie_52 {X : zX} (hX : zHX X)   : ∀ σ L st r, gl_X11_lie_52 j_X11_lie_52 σ L st = some r → zGW X 183 krI 52 σ L st r := by
  intro σ L st r h
  unfold gl_X11_lie_52 at h
  split at h
  · exact zin_ok (hy_X11_lie hX) bk_X11_lie (fun t f hf => by
    cases hf) ((e_X11_lie_52 _ _ _ _ _ _).symm.trans h)
  · cases h
noncomputable def j_X11_lie_41  (σ : zH) (x1 : Int32) (x2 : Int32) : Option (zH × Int32) :=
  if x2 = 0 then
    j_X11_lie_52 σ x1 (0 : Int32)
  else
    j_X11_lie_52 σ x1 (1 : Int32)
theorem e_X11_lie_41  (σ : zH) (x1 : Int32) (x2 : Int32)  : j_X11_lie_41 σ x1 x2 = zin cc_X11_lie (fun t => if t = 52 then some (gl_X11_lie_52 j_X11_lie_52) else none) 1 krI b_X11_lie 41 σ [vR 11 0, vI x1, vI x2] [] := by
  unfold j_X11_lie_41
  refine Eq.symm ((zin_b (es := q_X11_lie_41) rfl).trans ?_)
  refine (t_X11_lie_41 _ _ _ _).trans ?_
  refine x_if.trans (pif_eq ?_ ?_)
  · refine (zrun_b (es := q_X11_lie_51) rfl rfl).trans ?_
    refine (t_X11_lie_51 _ _ _ _ _ _ _).trans ?_
    refine x_cut.trans ?_
    exact (zrun_c rfl).trans (glr_X11_lie_52 _ _ _ _ _ _ _)
  · refine (t_X11_lie_47 _ _ _ _ _ _ _).trans ?_
    refine x_goto.trans ?_
    exact (zrun_c rfl).trans (glr_X11_lie_52 _ _ _ _ _ _ _)
theorem s_X11_lie_41 {X : zX} (hX : zHX X)   : ∀ σ L st r, gl_X11_lie_41 j_X11_lie_41 σ L st = some r → zGW X 183 krI 41 σ L st r := by
  intro σ L st r h
  unfold gl_X11_lie_41 at h
  split at h
  · exact zin_ok (hy_X11_lie hX) bk_X11_lie (fun t f hf => by
    by_cases e52 : t = 52
    · rw [if_pos e52] at hf; subst e52; cases hf; exact (s_X11_lie_52 hX)
    rw [if_neg e52] at hf
    cases hf) ((e_X11_lie_41 _ _ _).symm.trans h)
  · cases h
noncomputable def j_X11_lie_23  (σ : zH) (x1 : Int32) (x2 : Int32) (xs0 : Int32) : Option (zH × Int32) :=
  if xs0 = x2 then
    some (σ, (0 : Int32))
  else
    if x2 = 0 then
      j_X11_lie_41 σ x1 x2
    else
      (d_X11_isFree σ x1).bind fun p1 =>
      if p1.2 = 0 then
        some (p1.1, (0 : Int32))
      else
        j_X11_lie_41 p1.1 x1 x2
theorem e_X11_lie_23  (σ : zH) (x1 : Int32) (x2 : Int32) (xs0 : Int32)  : j_X11_lie_23 σ x1 x2 xs0 = zin cc_X11_lie (fun t => if t = 41 then some (gl_X11_lie_41 j_X11_lie_41) else none) 1 krI b_X11_lie 23 σ [vR 11 0, vI x1, vI x2] [vI xs0] := by
  unfold j_X11_lie_23
  refine Eq.symm ((zin_b (es := q_X11_lie_23) rfl).trans ?_)
  refine (t_X11_lie_23 _ _ _ _ _).trans ?_
  refine x_icmp.trans (pif_eq ?_ ?_)
  · refine (zrun_b (es := q_X11_lie_39) rfl rfl).trans ?_
    refine (t_X11_lie_39 _ _ _ _ _ _).trans ?_
    exact x_zret.trans (tv_l (by decide +kernel))
  · refine (t_X11_lie_27 _ _ _ _).trans ?_
    refine x_if.trans (pif_eq ?_ ?_)
    · exact (zrun_c rfl).trans (glr_X11_lie_41 _ _ _ _)
    · refine (t_X11_lie_31 _ _ _ _).trans ?_
      refine (x_callV rfl rfl rfl rfl).trans ((cl_X11_lie_X11_isFree _ _ _).trans ((gr_X11_isFree _ _ _).trans (pbd fun _ => ?_)))
      refine x_if.trans (pif_ne ?_ ?_)
      · exact (zrun_c rfl).trans (glr_X11_lie_41 _ _ _ _)
      · refine (t_X11_lie_39 _ _ _ _ _ _).trans ?_
        exact x_zret.trans (tv_l (by decide +kernel))
theorem s_X11_lie_23 {X : zX} (hX : zHX X)   : ∀ σ L st r, gl_X11_lie_23 j_X11_lie_23 σ L st = some r → zGW X 183 krI 23 σ L st r := by
  intro σ L st r h
  unfold gl_X11_lie_23 at h
  split at h
  · exact zin_ok (hy_X11_lie hX) bk_X11_lie (fun t f hf => by
    by_cases e41 : t = 41
    · rw [if_pos e41] at hf; subst e41; cases hf; exact (s_X11_lie_41 hX)
    rw [if_neg e41] at hf
    cases hf) ((e_X11_lie_23 _ _ _ _).symm.trans h)
  · cases h
noncomputable def d_X11_lie (σ : zH) (xa1 : Int32) (xa2 : Int32) : Option (zH × Int32) :=
  (d_X11_isCompany σ xa1).bind fun p1 =>
  if p1.2 = 0 then
    some (p1.1, (0 : Int32))
  else
    ix xa1 12 fun j2 =>
    if (p1.1.1 62 0 j2) = (1 : Int32) then
      j_X11_lie_23 p1.1 xa1 xa2 (1 : Int32)
    else
      j_X11_lie_23 p1.1 xa1 xa2 (0 : Int32)
theorem e_X11_lie (σ : zH) (xa1 : Int32) (xa2 : Int32) : d_X11_lie σ xa1 xa2 = zin cc_X11_lie (fun t => if t = 23 then some (gl_X11_lie_23 j_X11_lie_23) else none) 1 krI b_X11_lie 0 σ [vR 11 0, vI xa1, vI xa2] [] := by
  unfold d_X11_lie
  refine Eq.symm ((zin_b (es := q_X11_lie_0) rfl).trans ?_)
  refine (t_X11_lie_0 _ _ _ _).trans ?_
  refine (x_callV rfl rfl rfl rfl).trans ((cl_X11_lie_X11_isCompany _ _ _).trans ((gr_X11_isCompany _ _ _).trans (pbd fun _ => ?_)))
  refine x_if.trans (pif_eq ?_ ?_)
  · refine (zrun_b (es := q_X11_lie_39) rfl rfl).trans ?_
    refine (t_X11_lie_39 _ _ _ _ _ _).trans ?_
    exact x_zret.trans (tv_l (by decide +kernel))
  · refine (t_X11_lie_8 _ _ _ _).trans ?_
    refine (x_iald (N := 12) rfl rfl).trans (pix fun _ => ?_)
    refine (t_X11_lie_14 _ _ _ _ _ _).trans ?_
    refine x_icmp.trans (pif_ne ?_ ?_)
    · refine (zrun_b (es := q_X11_lie_22) rfl rfl).trans ?_
      refine (t_X11_lie_22 _ _ _ _ _).trans ?_
      refine x_cut.trans ?_
      exact (zrun_c rfl).trans (glr_X11_lie_23 _ _ _ _ _)
    · refine (t_X11_lie_18 _ _ _ _ _).trans ?_
      refine x_goto.trans ?_
      exact (zrun_c rfl).trans (glr_X11_lie_23 _ _ _ _ _)
noncomputable def g_X11_lie {ρ : Type} (σ : zH) (av : List zAV) (q : zH → zAV → Option ρ) : Option ρ := match av with
  | [.inr (.inr (.inl (11, 0))), .inl xa1, .inl xa2] => (d_X11_lie σ xa1 xa2).bind fun p => q p.1 (vI p.2)
  | _ => none
theorem gr_X11_lie {ρ : Type} (σ : zH) (xa1 : Int32) (xa2 : Int32) (q : zH → zAV → Option ρ) : g_X11_lie σ [vR 11 0, vI xa1, vI xa2] q = (d_X11_lie σ xa1 xa2).bind fun p => q p.1 (vI p.2) := rfl
theorem c_X11_lie {ρ : Type} {X : zX} (hX : zHX X) {σ : zH} {av : List zAV} {q : zH → zAV → Option ρ} {r : ρ} (h : g_X11_lie σ av q = some r) (hv : ∀ a ∈ av, zval X a) : zcon X 183 σ av q r := by
  unfold g_X11_lie at h
  split at h
  · exact zcon_I (n := 183) (ml := 3) (rc := 1) (st := 0) (kd := 11) (np := 2) (by decide +kernel) (by decide) ⟨_, _, rfl, rfl⟩ (Nat.le_of_ble_eq_true rfl) hv h (fun y h1 => (zin_ok (hy_X11_lie hX) bk_X11_lie (fun t f hf => by
      by_cases e23 : t = 23
      · rw [if_pos e23] at hf; subst e23; cases hf; exact (s_X11_lie_23 hX)
      rw [if_neg e23] at hf
      cases hf) ((e_X11_lie _ _ _).symm.trans h1)))
  · cases h
/-! SleepWavesModel.tires(II)I -/
def q_X11_tires_21 : List zEnt := zE 21 .ireturn 1 :: []
def q_X11_tires_20 : List zEnt := zEk 20 (.iconst (-1)) 1 (-1) :: q_X11_tires_21
def q_X11_tires_17 : List zEnt := zEa 17 (.ifCond .ne 5) 3 22 :: q_X11_tires_20
def q_X11_tires_14 : List zEnt := zEc 14 (.invokestatic 173) 3 125 3 129 0 :: q_X11_tires_17
def q_X11_tires_8 : List zEnt := zE 8 (.iload_n 2) 1 :: zE 9 .i2l 1 :: (10, (.lconst 0), 1, (0, 0, 0, 0), (0, 0, 0), 0, 0, []) :: (11, (.ldc2_w 429), 3, (0, 0, 1590, 0), (0, 0, 0), 0, 999, []) :: q_X11_tires_14
def q_X11_tires_5 : List zEnt := zEa 5 (.ifCond .eq 15) 3 20 :: q_X11_tires_8
def q_X11_tires_2 : List zEnt := zEc 2 (.invokevirtual 426) 3 127 2 167 0 :: q_X11_tires_5
def q_X11_tires_0 : List zEnt := zE 0 (.aload_n 0) 1 :: zE 1 (.iload_n 1) 1 :: q_X11_tires_2
def q_X11_tires_37 : List zEnt := zE 37 .ireturn 1 :: []
def q_X11_tires_36 : List zEnt := zE 36 (.iload_n 3) 1 :: q_X11_tires_37
def q_X11_tires_35 : List zEnt := zE 35 .iastore 1 :: q_X11_tires_36
def q_X11_tires_28 : List zEnt := zE 28 (.istore_n 3) 1 :: zE 29 (.aload_n 0) 1 :: zEf 30 (.getfield 73) 3 11 22 170 (2, 63, 0) :: zE 33 (.iload_n 1) 1 :: zE 34 (.iload_n 2) 1 :: q_X11_tires_35
def q_X11_tires_27 : List zEnt := zE 27 .iaload 1 :: q_X11_tires_28
def q_X11_tires_22 : List zEnt := zE 22 (.aload_n 0) 1 :: zEf 23 (.getfield 73) 3 11 22 170 (2, 63, 0) :: zE 26 (.iload_n 1) 1 :: q_X11_tires_27
def b_X11_tires : List (Nat × List zEnt) := [(0, q_X11_tires_0), (20, q_X11_tires_20), (22, q_X11_tires_22)]
theorem bk_X11_tires : zchB 184 b_X11_tires = true := by decide +kernel
noncomputable def cc_X11_tires {ρ : Type} : Nat → zH → List zAV → (zH → zAV → Option ρ) → Option ρ := fun n σ av q => if n = 127 then g_X11_isCompany σ av q else if n = 125 then g_X11_in σ av q else none
theorem cs_X11_tires {ρ : Type} {X : zX} (hX : zHX X) : zCS X (cc_X11_tires (ρ := ρ)) := by
  intro n σ av q r h hv
  unfold cc_X11_tires at h
  by_cases e_X11_isCompany : n = 127
  · rw [if_pos e_X11_isCompany] at h
    subst e_X11_isCompany
    exact c_X11_isCompany hX h hv
  rw [if_neg e_X11_isCompany] at h
  by_cases e_X11_in : n = 125
  · rw [if_pos e_X11_in] at h
    subst e_X11_in
    exact c_X11_in hX h hv
  rw [if_neg e_X11_in] at h
  cases h
theorem cl_X11_tires_X11_isCompany {ρ : Type} (σ : zH) (av : List zAV) (q : zH → zAV → Option ρ) : cc_X11_tires 127 σ av q = g_X11_isCompany σ av q := rfl
theorem cl_X11_tires_X11_in {ρ : Type} (σ : zH) (av : List zAV) (q : zH → zAV → Option ρ) : cc_X11_tires 125 σ av q = g_X11_in σ av q := rfl
theorem hy_X11_tires {ρ : Type} {X : zX} (hX : zHX X) : zHY X 184 (cc_X11_tires (ρ := ρ)) := zHX.hY hX (cs_X11_tires hX) (zmok_all 184 (by decide))
theorem t_X11_tires_0 {G : Nat → zH → List zAV → List zAV → Option (zH × Int32)} (es : List zEnt) (σ : zH) (x1 : Int32) (x2 : Int32) (y3 : zAV)  : zev cc_X11_tires G 0 krI (zE 0 (.aload_n 0) 1 :: zE 1 (.iload_n 1) 1 :: es) σ [vR 11 0, vI x1, vI x2, y3] [] = zev cc_X11_tires G 0 krI es σ [vR 11 0, vI x1, vI x2, y3] [vI x1, vR 11 0] := rfl
theorem t_X11_tires_8 {G : Nat → zH → List zAV → List zAV → Option (zH × Int32)} (es : List zEnt) (σ : zH) (x1 : Int32) (x2 : Int32) (y3 : zAV) (w10 : Int64) (w11 : Int64) : zev cc_X11_tires G 0 krI (zE 8 (.iload_n 2) 1 :: zE 9 .i2l 1 :: (10, (.lconst 0), 1, (0, 0, 0, 0), (0, 0, 0), 0, w10, []) :: (11, (.ldc2_w 429), 3, (0, 0, 1590, 0), (0, 0, 0), 0, w11, []) :: es) σ [vR 11 0, vI x1, vI x2, y3] [] = zev cc_X11_tires G 0 krI es σ [vR 11 0, vI x1, vI x2, y3] [vL w11, vL w10, vL x2.toInt64] := rfl
theorem t_X11_tires_20 {G : Nat → zH → List zAV → List zAV → Option (zH × Int32)} (es : List zEnt) (σ : zH)  (y0 : zAV) (y1 : zAV) (y2 : zAV) (y3 : zAV) (w20 : Int32) : zev cc_X11_tires G 0 krI (zEk 20 (.iconst (-1)) 1 w20 :: es) σ [y0, y1, y2, y3] [] = zev cc_X11_tires G 0 krI es σ [y0, y1, y2, y3] [vI w20] := rfl
theorem t_X11_tires_22 {G : Nat → zH → List zAV → List zAV → Option (zH × Int32)} (es : List zEnt) (σ : zH) (x1 : Int32) (x2 : Int32) (y3 : zAV)  : zev cc_X11_tires G 0 krI (zE 22 (.aload_n 0) 1 :: zEf 23 (.getfield 73) 3 11 22 170 (2, 63, 0) :: zE 26 (.iload_n 1) 1 :: es) σ [vR 11 0, vI x1, vI x2, y3] [] = zev cc_X11_tires G 0 krI es σ [vR 11 0, vI x1, vI x2, y3] [vI x1, vR 63 0] := rfl
theorem t_X11_tires_28 {G : Nat → zH → List zAV → List zAV → Option (zH × Int32)} (es : List zEnt) (σ : zH) (x1 : Int32) (x2 : Int32) (xs0 : Int32) (y3 : zAV)  : zev cc_X11_tires G 0 krI (zE 28 (.istore_n 3) 1 :: zE 29 (.aload_n 0) 1 :: zEf 30 (.getfield 73) 3 11 22 170 (2, 63, 0) :: zE 33 (.iload_n 1) 1 :: zE 34 (.iload_n 2) 1 :: es) σ [vR 11 0, vI x1, vI x2, y3] [vI xs0] = zev cc_X11_tires G 0 krI es σ [vR 11 0, vI x1, vI x2, vI xs0] [vI x2, vI x1, vR 63 0] := rfl
theorem t_X11_tires_36 {G : Nat → zH → List zAV → List zAV → Option (zH × Int32)} (es : List zEnt) (σ : zH) (x3 : Int32) (y0 : zAV) (y1 : zAV) (y2 : zAV)  : zev cc_X11_tires G 0 krI (zE 36 (.iload_n 3) 1 :: es) σ [y0, y1, y2, vI x3] [] = zev cc_X11_tires G 0 krI es σ [y0, y1, y2, vI x3] [vI x3] := rfl
noncomputable def d_X11_tires (σ : zH) (xa1 : Int32) (xa2 : Int32) : Option (zH × Int32) :=
  (d_X11_isCompany σ xa1).bind fun p1 =>
  if p1.2 = 0 then
    some (p1.1, (-1 : Int32))
  else
    (d_X11_in p1.1 xa2.toInt64 (0 : Int64) (999 : Int64)).bind fun p2 =>
    if p2.2 = 0 then
      some (p2.1, (-1 : Int32))
    else
      ix xa1 12 fun j3 =>
      ix xa1 12 fun j5 =>
      zlet (uI p2.1 63 0 j5 xa2) fun σ4 =>
      some (σ4, (p2.1.1 63 0 j3))
theorem e_X11_tires (σ : zH) (xa1 : Int32) (xa2 : Int32) : d_X11_tires σ xa1 xa2 = zin cc_X11_tires (fun t => none) 0 krI b_X11_tires 0 σ [vR 11 0, vI xa1, vI xa2, vU] [] := by
  unfold d_X11_tires
  refine Eq.symm ((zin_b (es := q_X11_tires_0) rfl).trans ?_)
  refine (t_X11_tires_0 _ _ _ _ _).trans ?_
  refine (x_callV rfl rfl rfl rfl).trans ((cl_X11_tires_X11_isCompany _ _ _).trans ((gr_X11_isCompany _ _ _).trans (pbd fun _ => ?_)))
  refine x_if.trans (pif_eq ?_ ?_)
  · refine (zrun_b (es := q_X11_tires_20) rfl rfl).trans ?_
    refine (t_X11_tires_20 _ _ _ _ _ _ _).trans ?_
    exact x_iret
  · refine (t_X11_tires_8 _ _ _ _ _ _ _).trans ?_
    refine (x_callS rfl rfl rfl rfl).trans ((cl_X11_tires_X11_in _ _ _).trans ((gr_X11_in _ _ _ _ _).trans (pbd fun _ => ?_)))
    refine x_if.trans (pif_ne ?_ ?_)
    · refine (zrun_b (es := q_X11_tires_22) rfl rfl).trans ?_
      refine (t_X11_tires_22 _ _ _ _ _).trans ?_
      refine (x_iald (N := 12) rfl rfl).trans (pix fun _ => ?_)
      refine (t_X11_tires_28 _ _ _ _ _ _).trans ?_
      refine (x_iast (N := 12) rfl rfl).trans (pix fun _ => plt fun _ => ?_)
      refine (t_X11_tires_36 _ _ _ _ _ _).trans ?_
      exact x_iret
    · refine (t_X11_tires_20 _ _ _ _ _ _ _).trans ?_
      exact x_iret
noncomputable def g_X11_tires {ρ : Type} (σ : zH) (av : List zAV) (q : zH → zAV → Option ρ) : Option ρ := match av with
  | [.inr (.inr (.inl (11, 0))), .inl xa1, .inl xa2] => (d_X11_tires σ xa1 xa2).bind fun p => q p.1 (vI p.2)
  | _ => none
theorem gr_X11_tires {ρ : Type} (σ : zH) (xa1 : Int32) (xa2 : Int32) (q : zH → zAV → Option ρ) : g_X11_tires σ [vR 11 0, vI xa1, vI xa2] q = (d_X11_tires σ xa1 xa2).bind fun p => q p.1 (vI p.2) := rfl
theorem c_X11_tires {ρ : Type} {X : zX} (hX : zHX X) {σ : zH} {av : List zAV} {q : zH → zAV → Option ρ} {r : ρ} (h : g_X11_tires σ av q = some r) (hv : ∀ a ∈ av, zval X a) : zcon X 184 σ av q r := by
  unfold g_X11_tires at h
  split at h
  · exact zcon_I (n := 184) (ml := 4) (rc := 0) (st := 0) (kd := 11) (np := 2) (by decide +kernel) (by decide) ⟨_, _, rfl, rfl⟩ (Nat.le_of_ble_eq_true rfl) hv h (fun y h1 => (zin_ok (hy_X11_tires hX) bk_X11_tires (fun t f hf => by
      cases hf) ((e_X11_tires _ _ _).symm.trans h1)))
  · cases h
/-! SleepWavesModel.drum()I -/
def q_X11_drum_0 : List zEnt := zEk 0 (.iconst 0) 1 0 :: zE 1 (.istore_n 1) 1 :: zEk 2 (.iconst 0) 1 0 :: zE 3 (.istore_n 2) 1 :: [zE 4 .nop 0]
def q_X11_drum_38 : List zEnt := zEa 38 (.goto (-34)) 3 4 :: []
def q_X11_drum_35 : List zEnt := zEk 35 (.iinc 2 1) 3 1 :: q_X11_drum_38
def q_X11_drum_32 : List zEnt := zEk 32 (.iinc 1 1) 3 1 :: q_X11_drum_35
def q_X11_drum_29 : List zEnt := zEc 29 (.invokevirtual 396) 3 171 5 161 1 :: q_X11_drum_32
def q_X11_drum_24 : List zEnt := zE 24 (.aload_n 0) 1 :: zE 25 (.iload_n 2) 1 :: zEk 26 (.iconst 0) 1 0 :: zEk 27 (.iconst 2) 1 2 :: zEk 28 (.iconst (-1)) 1 (-1) :: q_X11_drum_29
def q_X11_drum_21 : List zEnt := zEa 21 (.if_icmp .ne 14) 3 35 :: q_X11_drum_24
def q_X11_drum_20 : List zEnt := zEk 20 (.iconst 1) 1 1 :: q_X11_drum_21
def q_X11_drum_19 : List zEnt := zE 19 .iaload 1 :: q_X11_drum_20
def q_X11_drum_14 : List zEnt := zE 14 (.aload_n 0) 1 :: zEf 15 (.getfield 70) 3 11 21 169 (2, 62, 0) :: zE 18 (.iload_n 2) 1 :: q_X11_drum_19
def q_X11_drum_11 : List zEnt := zEa 11 (.if_icmp .ge 30) 3 41 :: q_X11_drum_14
def q_X11_drum_10 : List zEnt := zE 10 .iaload 1 :: q_X11_drum_11
def q_X11_drum_4 : List zEnt := zE 4 (.iload_n 2) 1 :: zE 5 (.aload_n 0) 1 :: zEf 6 (.getfield 7) 3 11 1 149 (2, 42, 0) :: zEk 9 (.iconst 0) 1 0 :: q_X11_drum_10
def q_X11_drum_42 : List zEnt := zE 42 .ireturn 1 :: []
def q_X11_drum_41 : List zEnt := zE 41 (.iload_n 1) 1 :: q_X11_drum_42
def b_X11_drum : List (Nat × List zEnt) := [(0, q_X11_drum_0), (4, q_X11_drum_4), (35, q_X11_drum_35), (41, q_X11_drum_41)]
theorem bk_X11_drum : zchB 185 b_X11_drum = true := by decide +kernel
noncomputable def cc_X11_drum {ρ : Type} : Nat → zH → List zAV → (zH → zAV → Option ρ) → Option ρ := fun n σ av q => if n = 171 then g_X11_changes σ av q else none
theorem cs_X11_drum {ρ : Type} {X : zX} (hX : zHX X) : zCS X (cc_X11_drum (ρ := ρ)) := by
  intro n σ av q r h hv
  unfold cc_X11_drum at h
  by_cases e_X11_changes : n = 171
  · rw [if_pos e_X11_changes] at h
    subst e_X11_changes
    exact c_X11_changes hX h hv
  rw [if_neg e_X11_changes] at h
  cases h
theorem cl_X11_drum_X11_changes {ρ : Type} (σ : zH) (av : List zAV) (q : zH → zAV → Option ρ) : cc_X11_drum 171 σ av q = g_X11_changes σ av q := rfl
theorem hy_X11_drum {ρ : Type} {X : zX} (hX : zHX X) : zHY X 185 (cc_X11_drum (ρ := ρ)) := zHX.hY hX (cs_X11_drum hX) (zmok_all 185 (by decide))
def gl_X11_drum_4 {ρ : Type} (f : zH → Int32 → Int32 → Option ρ) (σ : zH) (L st : List zAV) : Option ρ := match L, st with
  | [.inr (.inr (.inl (11, 0))), .inl x1, .inl x2], [] => f σ x1 x2
  | _, _ => none
theorem glr_X11_drum_4 {ρ : Type} (f : zH → Int32 → Int32 → Option ρ) (σ : zH) (x1 : Int32) (x2 : Int32)  : gl_X11_drum_4 f σ [vR 11 0, vI x1, vI x2] [] = f σ x1 x2 := rfl
theorem t_X11_drum_0 {G : Nat → zH → List zAV → List zAV → Option (zH × Int32)} (es : List zEnt) (σ : zH)  (y1 : zAV) (y2 : zAV) (w0 : Int32) (w2 : Int32) : zev cc_X11_drum G 0 krI (zEk 0 (.iconst 0) 1 w0 :: zE 1 (.istore_n 1) 1 :: zEk 2 (.iconst 0) 1 w2 :: zE 3 (.istore_n 2) 1 :: es) σ [vR 11 0, y1, y2] [] = zev cc_X11_drum G 0 krI es σ [vR 11 0, vI w0, vI w2] [] := rfl
theorem t_X11_drum_4 {G : Nat → zH → List zAV → List zAV → Option (zH × Int32)} (es : List zEnt) (σ : zH) (x1 : Int32) (x2 : Int32)  (w9 : Int32) : zev cc_X11_drum G 0 krI (zE 4 (.iload_n 2) 1 :: zE 5 (.aload_n 0) 1 :: zEf 6 (.getfield 7) 3 11 1 149 (2, 42, 0) :: zEk 9 (.iconst 0) 1 w9 :: es) σ [vR 11 0, vI x1, vI x2] [] = zev cc_X11_drum G 0 krI es σ [vR 11 0, vI x1, vI x2] [vI w9, vR 42 0, vI x2] := rfl
theorem t_X11_drum_14 {G : Nat → zH → List zAV → List zAV → Option (zH × Int32)} (es : List zEnt) (σ : zH) (x1 : Int32) (x2 : Int32)   : zev cc_X11_drum G 0 krI (zE 14 (.aload_n 0) 1 :: zEf 15 (.getfield 70) 3 11 21 169 (2, 62, 0) :: zE 18 (.iload_n 2) 1 :: es) σ [vR 11 0, vI x1, vI x2] [] = zev cc_X11_drum G 0 krI es σ [vR 11 0, vI x1, vI x2] [vI x2, vR 62 0] := rfl
theorem t_X11_drum_20 {G : Nat → zH → List zAV → List zAV → Option (zH × Int32)} (es : List zEnt) (σ : zH) (x1 : Int32) (x2 : Int32) (xs0 : Int32)  (w20 : Int32) : zev cc_X11_drum G 0 krI (zEk 20 (.iconst 1) 1 w20 :: es) σ [vR 11 0, vI x1, vI x2] [vI xs0] = zev cc_X11_drum G 0 krI es σ [vR 11 0, vI x1, vI x2] [vI w20, vI xs0] := rfl
theorem t_X11_drum_24 {G : Nat → zH → List zAV → List zAV → Option (zH × Int32)} (es : List zEnt) (σ : zH) (x1 : Int32) (x2 : Int32)  (w26 : Int32) (w27 : Int32) (w28 : Int32) : zev cc_X11_drum G 0 krI (zE 24 (.aload_n 0) 1 :: zE 25 (.iload_n 2) 1 :: zEk 26 (.iconst 0) 1 w26 :: zEk 27 (.iconst 2) 1 w27 :: zEk 28 (.iconst (-1)) 1 w28 :: es) σ [vR 11 0, vI x1, vI x2] [] = zev cc_X11_drum G 0 krI es σ [vR 11 0, vI x1, vI x2] [vI w28, vI w27, vI w26, vI x2, vR 11 0] := rfl
theorem t_X11_drum_32 {G : Nat → zH → List zAV → List zAV → Option (zH × Int32)} (es : List zEnt) (σ : zH) (x1 : Int32) (x2 : Int32)  (w32 : Int32) (w35 : Int32) : zev cc_X11_drum G 0 krI (zEk 32 (.iinc 1 1) 3 w32 :: zEk 35 (.iinc 2 1) 3 w35 :: es) σ [vR 11 0, vI x1, vI x2] [] = zev cc_X11_drum G 0 krI es σ [vR 11 0, vI (x1 + w32), vI (x2 + w35)] [] := rfl
theorem t_X11_drum_35 {G : Nat → zH → List zAV → List zAV → Option (zH × Int32)} (es : List zEnt) (σ : zH) (x1 : Int32) (x2 : Int32)  (w35 : Int32) : zev cc_X11_drum G 0 krI (zEk 35 (.iinc 2 1) 3 w35 :: es) σ [vR 11 0, vI x1, vI x2] [] = zev cc_X11_drum G 0 krI es σ [vR 11 0, vI x1, vI (x2 + w35)] [] := rfl
theorem t_X11_drum_41 {G : Nat → zH → List zAV → List zAV → Option (zH × Int32)} (es : List zEnt) (σ : zH) (x1 : Int32) (y0 : zAV) (y2 : zAV)  : zev cc_X11_drum G 0 krI (zE 41 (.iload_n 1) 1 :: es) σ [y0, vI x1, y2] [] = zev cc_X11_drum G 0 krI es σ [y0, vI x1, y2] [vI x1] := rfl
noncomputable def k_X11_drum_4  : Nat → zH → Int32 → Int32 → Option (zH × Int32)
  | 0, _, _, _ => none
  | n + 1, σ, x1, x2 =>
    if x2 < (σ.1 42 0 0) then
      ix x2 12 fun j1 =>
      if (σ.1 62 0 j1) = (1 : Int32) then
        (d_X11_changes σ x2 (0 : Int32) (2 : Int32) (-1 : Int32)).bind fun σ2 =>
        (k_X11_drum_4 n) σ2 (x1 + (1 : Int32)) (x2 + (1 : Int32))
      else
        (k_X11_drum_4 n) σ x1 (x2 + (1 : Int32))
    else
      some (σ, x1)
theorem e_X11_drum_4  (n : Nat) (σ : zH) (x1 : Int32) (x2 : Int32)  : k_X11_drum_4 (n + 1) σ x1 x2 = zin cc_X11_drum (fun t => if t = 4 then some (gl_X11_drum_4 (k_X11_drum_4 n)) else none) 0 krI b_X11_drum 4 σ [vR 11 0, vI x1, vI x2] [] := by
  rw [k_X11_drum_4]
  refine Eq.symm ((zin_b (es := q_X11_drum_4) rfl).trans ?_)
  refine (t_X11_drum_4 _ _ _ _ _).trans ?_
  refine ((x_iald (N := 11) rfl rfl).trans (ix_l 0 (by decide +kernel))).trans ?_
  refine x_icmp.trans (pif_ge ?_ ?_)
  · refine (zrun_b (es := q_X11_drum_41) rfl rfl).trans ?_
    refine (t_X11_drum_41 _ _ _ _ _).trans ?_
    exact x_iret
  · refine (t_X11_drum_14 _ _ _ _).trans ?_
    refine (x_iald (N := 12) rfl rfl).trans (pix fun _ => ?_)
    refine (t_X11_drum_20 _ _ _ _ _ _).trans ?_
    refine x_icmp.trans (pif_ne ?_ ?_)
    · refine (zrun_b (es := q_X11_drum_35) rfl rfl).trans ?_
      refine (t_X11_drum_35 _ _ _ _ _).trans ?_
      refine x_goto.trans ?_
      exact (zrun_c rfl).trans (glr_X11_drum_4 _ _ _ _)
    · refine (t_X11_drum_24 _ _ _ _ _ _ _).trans ?_
      refine (x_callV rfl rfl rfl rfl).trans ((cl_X11_drum_X11_changes _ _ _).trans ((gr_X11_changes _ _ _ _ _ _).trans (pbd fun _ => ?_)))
      refine (t_X11_drum_32 _ _ _ _ _ _).trans ?_
      refine x_goto.trans ?_
      exact (zrun_c rfl).trans (glr_X11_drum_4 _ _ _ _)
theorem s_X11_drum_4 {X : zX} (hX : zHX X)   : ∀ n σ L st r, gl_X11_drum_4 (k_X11_drum_4 n) σ L st = some r → zGW X 185 krI 4 σ L st r := by
  intro n
  induction n with
  | zero =>
    intro σ L st r h
    unfold gl_X11_drum_4 at h
    split at h <;> cases h
  | succ n ih =>
    intro σ L st r h
    unfold gl_X11_drum_4 at h
    split at h
    · exact zin_ok (hy_X11_drum hX) bk_X11_drum (fun t f hf => by
      by_cases e4 : t = 4
      · rw [if_pos e4] at hf; subst e4; cases hf; exact ih
      rw [if_neg e4] at hf
      cases hf) ((e_X11_drum_4 _ _ _ _).symm.trans h)
    · cases h
noncomputable def d_X11_drum (σ : zH)  : Option (zH × Int32) :=
  (k_X11_drum_4 zN) σ (0 : Int32) (0 : Int32)
theorem e_X11_drum (σ : zH)  : d_X11_drum σ = zin cc_X11_drum (fun t => if t = 4 then some (gl_X11_drum_4 (k_X11_drum_4 zN)) else none) 0 krI b_X11_drum 0 σ [vR 11 0, vU, vU] [] := by
  unfold d_X11_drum
  refine Eq.symm ((zin_b (es := q_X11_drum_0) rfl).trans ?_)
  refine (t_X11_drum_0 _ _ _ _ _ _).trans ?_
  refine x_cut.trans ?_
  exact (zrun_c rfl).trans (glr_X11_drum_4 _ _ _ _)
noncomputable def g_X11_drum {ρ : Type} (σ : zH) (av : List zAV) (q : zH → zAV → Option ρ) : Option ρ := match av with
  | [.inr (.inr (.inl (11, 0)))] => (d_X11_drum σ).bind fun p => q p.1 (vI p.2)
  | _ => none
theorem gr_X11_drum {ρ : Type} (σ : zH)  (q : zH → zAV → Option ρ) : g_X11_drum σ [vR 11 0] q = (d_X11_drum σ).bind fun p => q p.1 (vI p.2) := rfl
theorem c_X11_drum {ρ : Type} {X : zX} (hX : zHX X) {σ : zH} {av : List zAV} {q : zH → zAV → Option ρ} {r : ρ} (h : g_X11_drum σ av q = some r) (hv : ∀ a ∈ av, zval X a) : zcon X 185 σ av q r := by
  unfold g_X11_drum at h
  split at h
  · exact zcon_I (n := 185) (ml := 3) (rc := 0) (st := 0) (kd := 11) (np := 0) (by decide +kernel) (by decide) ⟨_, _, rfl, rfl⟩ (Nat.le_of_ble_eq_true rfl) hv h (fun y h1 => (zin_ok (hy_X11_drum hX) bk_X11_drum (fun t f hf => by
      by_cases e4 : t = 4
      · rw [if_pos e4] at hf; subst e4; cases hf; exact ((fun σ L st r h => s_X11_drum_4 hX  zN σ L st r h))
      rw [if_neg e4] at hf
      cases hf) ((e_X11_drum _).symm.trans h1)))
  · cases h
/-! SleepWavesModel.feast(I)I -/
def q_X11_feast_13 : List zEnt := zE 13 .ireturn 1 :: []
def q_X11_feast_12 : List zEnt := zEk 12 (.iconst (-1)) 1 (-1) :: q_X11_feast_13
def q_X11_feast_9 : List zEnt := zEa 9 (.ifCond .ne 5) 3 14 :: q_X11_feast_12
def q_X11_feast_6 : List zEnt := zEc 6 (.invokestatic 173) 3 125 3 129 0 :: q_X11_feast_9
def q_X11_feast_0 : List zEnt := zE 0 (.iload_n 1) 1 :: zE 1 .i2l 1 :: (2, (.lconst 0), 1, (0, 0, 0, 0), (0, 0, 0), 0, 0, []) :: (3, (.ldc2_w 421), 3, (0, 0, 1488, 0), (0, 0, 0), 0, 96, []) :: q_X11_feast_6
def q_X11_feast_36 : List zEnt := zE 36 .ireturn 1 :: []
def q_X11_feast_35 : List zEnt := zE 35 .iaload 1 :: q_X11_feast_36
def q_X11_feast_29 : List zEnt := zE 29 (.aload_n 0) 1 :: zEf 30 (.getfield 7) 3 11 1 149 (2, 42, 0) :: zEk 33 (.bipush 8) 2 8 :: q_X11_feast_35
def q_X11_feast_28 : List zEnt := zE 28 .iastore 1 :: q_X11_feast_29
def q_X11_feast_26 : List zEnt := zE 26 (.iload_n 1) 1 :: zE 27 .iadd 1 :: q_X11_feast_28
def q_X11_feast_25 : List zEnt := zE 25 .iaload 1 :: q_X11_feast_26
def q_X11_feast_14 : List zEnt := zE 14 (.aload_n 0) 1 :: zEf 15 (.getfield 7) 3 11 1 149 (2, 42, 0) :: zEk 18 (.bipush 8) 2 8 :: zE 20 (.aload_n 0) 1 :: zEf 21 (.getfield 7) 3 11 1 149 (2, 42, 0) :: zEk 24 (.iconst 4) 1 4 :: q_X11_feast_25
def b_X11_feast : List (Nat × List zEnt) := [(0, q_X11_feast_0), (14, q_X11_feast_14)]
theorem bk_X11_feast : zchB 186 b_X11_feast = true := by decide +kernel
noncomputable def cc_X11_feast {ρ : Type} : Nat → zH → List zAV → (zH → zAV → Option ρ) → Option ρ := fun n σ av q => if n = 125 then g_X11_in σ av q else none
theorem cs_X11_feast {ρ : Type} {X : zX} (hX : zHX X) : zCS X (cc_X11_feast (ρ := ρ)) := by
  intro n σ av q r h hv
  unfold cc_X11_feast at h
  by_cases e_X11_in : n = 125
  · rw [if_pos e_X11_in] at h
    subst e_X11_in
    exact c_X11_in hX h hv
  rw [if_neg e_X11_in] at h
  cases h
theorem cl_X11_feast_X11_in {ρ : Type} (σ : zH) (av : List zAV) (q : zH → zAV → Option ρ) : cc_X11_feast 125 σ av q = g_X11_in σ av q := rfl
theorem hy_X11_feast {ρ : Type} {X : zX} (hX : zHX X) : zHY X 186 (cc_X11_feast (ρ := ρ)) := zHX.hY hX (cs_X11_feast hX) (zmok_all 186 (by decide))
theorem t_X11_feast_0 {G : Nat → zH → List zAV → List zAV → Option (zH × Int32)} (es : List zEnt) (σ : zH) (x1 : Int32)  (w2 : Int64) (w3 : Int64) : zev cc_X11_feast G 0 krI (zE 0 (.iload_n 1) 1 :: zE 1 .i2l 1 :: (2, (.lconst 0), 1, (0, 0, 0, 0), (0, 0, 0), 0, w2, []) :: (3, (.ldc2_w 421), 3, (0, 0, 1488, 0), (0, 0, 0), 0, w3, []) :: es) σ [vR 11 0, vI x1] [] = zev cc_X11_feast G 0 krI es σ [vR 11 0, vI x1] [vL w3, vL w2, vL x1.toInt64] := rfl
theorem t_X11_feast_12 {G : Nat → zH → List zAV → List zAV → Option (zH × Int32)} (es : List zEnt) (σ : zH)  (y0 : zAV) (y1 : zAV) (w12 : Int32) : zev cc_X11_feast G 0 krI (zEk 12 (.iconst (-1)) 1 w12 :: es) σ [y0, y1] [] = zev cc_X11_feast G 0 krI es σ [y0, y1] [vI w12] := rfl
theorem t_X11_feast_14 {G : Nat → zH → List zAV → List zAV → Option (zH × Int32)} (es : List zEnt) (σ : zH) (x1 : Int32)  (w18 : Int32) (w24 : Int32) : zev cc_X11_feast G 0 krI (zE 14 (.aload_n 0) 1 :: zEf 15 (.getfield 7) 3 11 1 149 (2, 42, 0) :: zEk 18 (.bipush 8) 2 w18 :: zE 20 (.aload_n 0) 1 :: zEf 21 (.getfield 7) 3 11 1 149 (2, 42, 0) :: zEk 24 (.iconst 4) 1 w24 :: es) σ [vR 11 0, vI x1] [] = zev cc_X11_feast G 0 krI es σ [vR 11 0, vI x1] [vI w24, vR 42 0, vI w18, vR 42 0] := rfl
theorem t_X11_feast_26 {G : Nat → zH → List zAV → List zAV → Option (zH × Int32)} (es : List zEnt) (σ : zH) (x1 : Int32) (xs1 : Int32) (xs2 : Int32)   : zev cc_X11_feast G 0 krI (zE 26 (.iload_n 1) 1 :: zE 27 .iadd 1 :: es) σ [vR 11 0, vI x1] [vI xs2, vI xs1, vR 42 0] = zev cc_X11_feast G 0 krI es σ [vR 11 0, vI x1] [vI (xs2 + x1), vI xs1, vR 42 0] := rfl
theorem t_X11_feast_29 {G : Nat → zH → List zAV → List zAV → Option (zH × Int32)} (es : List zEnt) (σ : zH)  (y1 : zAV) (w33 : Int32) : zev cc_X11_feast G 0 krI (zE 29 (.aload_n 0) 1 :: zEf 30 (.getfield 7) 3 11 1 149 (2, 42, 0) :: zEk 33 (.bipush 8) 2 w33 :: es) σ [vR 11 0, y1] [] = zev cc_X11_feast G 0 krI es σ [vR 11 0, y1] [vI w33, vR 42 0] := rfl
noncomputable def d_X11_feast (σ : zH) (xa1 : Int32) : Option (zH × Int32) :=
  (d_X11_in σ xa1.toInt64 (0 : Int64) (96 : Int64)).bind fun p1 =>
  if p1.2 = 0 then
    some (p1.1, (-1 : Int32))
  else
    zlet (uI p1.1 42 0 8 ((p1.1.1 42 0 4) + xa1)) fun σ2 =>
    some (σ2, (σ2.1 42 0 8))
theorem e_X11_feast (σ : zH) (xa1 : Int32) : d_X11_feast σ xa1 = zin cc_X11_feast (fun t => none) 0 krI b_X11_feast 0 σ [vR 11 0, vI xa1] [] := by
  unfold d_X11_feast
  refine Eq.symm ((zin_b (es := q_X11_feast_0) rfl).trans ?_)
  refine (t_X11_feast_0 _ _ _ _ _).trans ?_
  refine (x_callS rfl rfl rfl rfl).trans ((cl_X11_feast_X11_in _ _ _).trans ((gr_X11_in _ _ _ _ _).trans (pbd fun _ => ?_)))
  refine x_if.trans (pif_ne ?_ ?_)
  · refine (zrun_b (es := q_X11_feast_14) rfl rfl).trans ?_
    refine (t_X11_feast_14 _ _ _ _ _).trans ?_
    refine ((x_iald (N := 11) rfl rfl).trans (ix_l 4 (by decide +kernel))).trans ?_
    refine (t_X11_feast_26 _ _ _ _ _).trans ?_
    refine (x_iast (N := 11) rfl rfl).trans ((ix_l 8 (by decide +kernel)).trans (plt fun _ => ?_))
    refine (t_X11_feast_29 _ _ _ _).trans ?_
    refine ((x_iald (N := 11) rfl rfl).trans (ix_l 8 (by decide +kernel))).trans ?_
    exact x_iret
  · refine (t_X11_feast_12 _ _ _ _ _).trans ?_
    exact x_iret
noncomputable def g_X11_feast {ρ : Type} (σ : zH) (av : List zAV) (q : zH → zAV → Option ρ) : Option ρ := match av with
  | [.inr (.inr (.inl (11, 0))), .inl xa1] => (d_X11_feast σ xa1).bind fun p => q p.1 (vI p.2)
  | _ => none
theorem gr_X11_feast {ρ : Type} (σ : zH) (xa1 : Int32) (q : zH → zAV → Option ρ) : g_X11_feast σ [vR 11 0, vI xa1] q = (d_X11_feast σ xa1).bind fun p => q p.1 (vI p.2) := rfl
theorem c_X11_feast {ρ : Type} {X : zX} (hX : zHX X) {σ : zH} {av : List zAV} {q : zH → zAV → Option ρ} {r : ρ} (h : g_X11_feast σ av q = some r) (hv : ∀ a ∈ av, zval X a) : zcon X 186 σ av q r := by
  unfold g_X11_feast at h
  split at h
  · exact zcon_I (n := 186) (ml := 2) (rc := 0) (st := 0) (kd := 11) (np := 1) (by decide +kernel) (by decide) ⟨_, _, rfl, rfl⟩ (Nat.le_of_ble_eq_true rfl) hv h (fun y h1 => (zin_ok (hy_X11_feast hX) bk_X11_feast (fun t f hf => by
      cases hf) ((e_X11_feast _ _).symm.trans h1)))
  · cases h
/-! SleepWavesModel.keeps()V -/
def q_X11_keeps_99 : List zEnt := zE 99 .return_ 1 :: []
def q_X11_keeps_96 : List zEnt := zEc 96 (.invokestatic 331) 3 158 2 131 1 :: q_X11_keeps_99
def q_X11_keeps_88 : List zEnt := zE 88 (.aload_n 0) 1 :: zEf 89 (.getfield 91) 3 11 28 176 (2, 69, 0) :: zE 92 (.aload_n 0) 1 :: zEf 93 (.getfield 157) 3 11 59 207 (2, 88, 0) :: q_X11_keeps_96
def q_X11_keeps_85 : List zEnt := zEc 85 (.invokestatic 331) 3 158 2 131 1 :: q_X11_keeps_88
def q_X11_keeps_77 : List zEnt := zE 77 (.aload_n 0) 1 :: zEf 78 (.getfield 88) 3 11 27 175 (2, 68, 0) :: zE 81 (.aload_n 0) 1 :: zEf 82 (.getfield 154) 3 11 58 206 (2, 87, 0) :: q_X11_keeps_85
def q_X11_keeps_74 : List zEnt := zEc 74 (.invokestatic 331) 3 158 2 131 1 :: q_X11_keeps_77
def q_X11_keeps_66 : List zEnt := zE 66 (.aload_n 0) 1 :: zEf 67 (.getfield 85) 3 11 26 174 (2, 67, 0) :: zE 70 (.aload_n 0) 1 :: zEf 71 (.getfield 151) 3 11 57 205 (2, 86, 0) :: q_X11_keeps_74
def q_X11_keeps_63 : List zEnt := zEc 63 (.invokestatic 331) 3 158 2 131 1 :: q_X11_keeps_66
def q_X11_keeps_55 : List zEnt := zE 55 (.aload_n 0) 1 :: zEf 56 (.getfield 82) 3 11 25 173 (2, 66, 0) :: zE 59 (.aload_n 0) 1 :: zEf 60 (.getfield 148) 3 11 56 204 (2, 85, 0) :: q_X11_keeps_63
def q_X11_keeps_52 : List zEnt := zEc 52 (.invokestatic 331) 3 158 2 131 1 :: q_X11_keeps_55
def q_X11_keeps_44 : List zEnt := zE 44 (.aload_n 0) 1 :: zEf 45 (.getfield 79) 3 11 24 172 (2, 65, 0) :: zE 48 (.aload_n 0) 1 :: zEf 49 (.getfield 145) 3 11 55 203 (2, 84, 0) :: q_X11_keeps_52
def q_X11_keeps_41 : List zEnt := zEc 41 (.invokestatic 331) 3 158 2 131 1 :: q_X11_keeps_44
def q_X11_keeps_33 : List zEnt := zE 33 (.aload_n 0) 1 :: zEf 34 (.getfield 76) 3 11 23 171 (2, 64, 0) :: zE 37 (.aload_n 0) 1 :: zEf 38 (.getfield 142) 3 11 54 202 (2, 83, 0) :: q_X11_keeps_41
def q_X11_keeps_30 : List zEnt := zEc 30 (.invokestatic 331) 3 158 2 131 1 :: q_X11_keeps_33
def q_X11_keeps_22 : List zEnt := zE 22 (.aload_n 0) 1 :: zEf 23 (.getfield 73) 3 11 22 170 (2, 63, 0) :: zE 26 (.aload_n 0) 1 :: zEf 27 (.getfield 139) 3 11 53 201 (2, 82, 0) :: q_X11_keeps_30
def q_X11_keeps_19 : List zEnt := zEc 19 (.invokestatic 331) 3 158 2 131 1 :: q_X11_keeps_22
def q_X11_keeps_11 : List zEnt := zE 11 (.aload_n 0) 1 :: zEf 12 (.getfield 70) 3 11 21 169 (2, 62, 0) :: zE 15 (.aload_n 0) 1 :: zEf 16 (.getfield 136) 3 11 52 200 (2, 81, 0) :: q_X11_keeps_19
def q_X11_keeps_8 : List zEnt := zEc 8 (.invokestatic 331) 3 158 2 131 1 :: q_X11_keeps_11
def q_X11_keeps_0 : List zEnt := zE 0 (.aload_n 0) 1 :: zEf 1 (.getfield 7) 3 11 1 149 (2, 42, 0) :: zE 4 (.aload_n 0) 1 :: zEf 5 (.getfield 133) 3 11 51 199 (2, 80, 0) :: q_X11_keeps_8
def b_X11_keeps : List (Nat × List zEnt) := [(0, q_X11_keeps_0)]
theorem bk_X11_keeps : zchB 187 b_X11_keeps = true := by decide +kernel
noncomputable def cc_X11_keeps {ρ : Type} : Nat → zH → List zAV → (zH → zAV → Option ρ) → Option ρ := fun n σ av q => if n = 158 then g_X11_lay σ av q else none
theorem cs_X11_keeps {ρ : Type} {X : zX} (hX : zHX X) : zCS X (cc_X11_keeps (ρ := ρ)) := by
  intro n σ av q r h hv
  unfold cc_X11_keeps at h
  by_cases e_X11_lay : n = 158
  · rw [if_pos e_X11_lay] at h
    subst e_X11_lay
    exact c_X11_lay hX h hv
  rw [if_neg e_X11_lay] at h
  cases h
theorem cl_X11_keeps_X11_lay {ρ : Type} (σ : zH) (av : List zAV) (q : zH → zAV → Option ρ) : cc_X11_keeps 158 σ av q = g_X11_lay σ av q := rfl
theorem hy_X11_keeps {ρ : Type} {X : zX} (hX : zHX X) : zHY X 187 (cc_X11_keeps (ρ := ρ)) := zHX.hY hX (cs_X11_keeps hX) (zmok_all 187 (by decide))
theorem t_X11_keeps_0 {G : Nat → zH → List zAV → List zAV → Option zH} (es : List zEnt) (σ : zH)    : zev cc_X11_keeps G 9 krV (zE 0 (.aload_n 0) 1 :: zEf 1 (.getfield 7) 3 11 1 149 (2, 42, 0) :: zE 4 (.aload_n 0) 1 :: zEf 5 (.getfield 133) 3 11 51 199 (2, 80, 0) :: es) σ [vR 11 0] [] = zev cc_X11_keeps G 9 krV es σ [vR 11 0] [vR 80 0, vR 42 0] := rfl
theorem t_X11_keeps_11 {G : Nat → zH → List zAV → List zAV → Option zH} (es : List zEnt) (σ : zH)    : zev cc_X11_keeps G 9 krV (zE 11 (.aload_n 0) 1 :: zEf 12 (.getfield 70) 3 11 21 169 (2, 62, 0) :: zE 15 (.aload_n 0) 1 :: zEf 16 (.getfield 136) 3 11 52 200 (2, 81, 0) :: es) σ [vR 11 0] [] = zev cc_X11_keeps G 9 krV es σ [vR 11 0] [vR 81 0, vR 62 0] := rfl
theorem t_X11_keeps_22 {G : Nat → zH → List zAV → List zAV → Option zH} (es : List zEnt) (σ : zH)    : zev cc_X11_keeps G 9 krV (zE 22 (.aload_n 0) 1 :: zEf 23 (.getfield 73) 3 11 22 170 (2, 63, 0) :: zE 26 (.aload_n 0) 1 :: zEf 27 (.getfield 139) 3 11 53 201 (2, 82, 0) :: es) σ [vR 11 0] [] = zev cc_X11_keeps G 9 krV es σ [vR 11 0] [vR 82 0, vR 63 0] := rfl
theorem t_X11_keeps_33 {G : Nat → zH → List zAV → List zAV → Option zH} (es : List zEnt) (σ : zH)    : zev cc_X11_keeps G 9 krV (zE 33 (.aload_n 0) 1 :: zEf 34 (.getfield 76) 3 11 23 171 (2, 64, 0) :: zE 37 (.aload_n 0) 1 :: zEf 38 (.getfield 142) 3 11 54 202 (2, 83, 0) :: es) σ [vR 11 0] [] = zev cc_X11_keeps G 9 krV es σ [vR 11 0] [vR 83 0, vR 64 0] := rfl
theorem t_X11_keeps_44 {G : Nat → zH → List zAV → List zAV → Option zH} (es : List zEnt) (σ : zH)    : zev cc_X11_keeps G 9 krV (zE 44 (.aload_n 0) 1 :: zEf 45 (.getfield 79) 3 11 24 172 (2, 65, 0) :: zE 48 (.aload_n 0) 1 :: zEf 49 (.getfield 145) 3 11 55 203 (2, 84, 0) :: es) σ [vR 11 0] [] = zev cc_X11_keeps G 9 krV es σ [vR 11 0] [vR 84 0, vR 65 0] := rfl
theorem t_X11_keeps_55 {G : Nat → zH → List zAV → List zAV → Option zH} (es : List zEnt) (σ : zH)    : zev cc_X11_keeps G 9 krV (zE 55 (.aload_n 0) 1 :: zEf 56 (.getfield 82) 3 11 25 173 (2, 66, 0) :: zE 59 (.aload_n 0) 1 :: zEf 60 (.getfield 148) 3 11 56 204 (2, 85, 0) :: es) σ [vR 11 0] [] = zev cc_X11_keeps G 9 krV es σ [vR 11 0] [vR 85 0, vR 66 0] := rfl
theorem t_X11_keeps_66 {G : Nat → zH → List zAV → List zAV → Option zH} (es : List zEnt) (σ : zH)    : zev cc_X11_keeps G 9 krV (zE 66 (.aload_n 0) 1 :: zEf 67 (.getfield 85) 3 11 26 174 (2, 67, 0) :: zE 70 (.aload_n 0) 1 :: zEf 71 (.getfield 151) 3 11 57 205 (2, 86, 0) :: es) σ [vR 11 0] [] = zev cc_X11_keeps G 9 krV es σ [vR 11 0] [vR 86 0, vR 67 0] := rfl
theorem t_X11_keeps_77 {G : Nat → zH → List zAV → List zAV → Option zH} (es : List zEnt) (σ : zH)    : zev cc_X11_keeps G 9 krV (zE 77 (.aload_n 0) 1 :: zEf 78 (.getfield 88) 3 11 27 175 (2, 68, 0) :: zE 81 (.aload_n 0) 1 :: zEf 82 (.getfield 154) 3 11 58 206 (2, 87, 0) :: es) σ [vR 11 0] [] = zev cc_X11_keeps G 9 krV es σ [vR 11 0] [vR 87 0, vR 68 0] := rfl
theorem t_X11_keeps_88 {G : Nat → zH → List zAV → List zAV → Option zH} (es : List zEnt) (σ : zH)    : zev cc_X11_keeps G 9 krV (zE 88 (.aload_n 0) 1 :: zEf 89 (.getfield 91) 3 11 28 176 (2, 69, 0) :: zE 92 (.aload_n 0) 1 :: zEf 93 (.getfield 157) 3 11 59 207 (2, 88, 0) :: es) σ [vR 11 0] [] = zev cc_X11_keeps G 9 krV es σ [vR 11 0] [vR 88 0, vR 69 0] := rfl
noncomputable def d_X11_keeps (σ : zH)  : Option zH :=
  (d_X11_lay σ 42 0 80 0).bind fun σ1 =>
  (d_X11_lay σ1 62 0 81 0).bind fun σ2 =>
  (d_X11_lay σ2 63 0 82 0).bind fun σ3 =>
  (d_X11_lay σ3 64 0 83 0).bind fun σ4 =>
  (d_X11_lay σ4 65 0 84 0).bind fun σ5 =>
  (d_X11_lay σ5 66 0 85 0).bind fun σ6 =>
  (d_X11_lay σ6 67 0 86 0).bind fun σ7 =>
  (d_X11_lay σ7 68 0 87 0).bind fun σ8 =>
  (d_X11_lay σ8 69 0 88 0).bind fun σ9 =>
  some σ9
theorem e_X11_keeps (σ : zH)  : d_X11_keeps σ = zin cc_X11_keeps (fun t => none) 9 krV b_X11_keeps 0 σ [vR 11 0] [] := by
  unfold d_X11_keeps
  refine Eq.symm ((zin_b (es := q_X11_keeps_0) rfl).trans ?_)
  refine (t_X11_keeps_0 _ _).trans ?_
  refine (x_callS rfl rfl rfl rfl).trans ((cl_X11_keeps_X11_lay _ _ _).trans ((gr_X11_lay _ _ _ _ _ _).trans (pbd fun _ => ?_)))
  refine (t_X11_keeps_11 _ _).trans ?_
  refine (x_callS rfl rfl rfl rfl).trans ((cl_X11_keeps_X11_lay _ _ _).trans ((gr_X11_lay _ _ _ _ _ _).trans (pbd fun _ => ?_)))
  refine (t_X11_keeps_22 _ _).trans ?_
  refine (x_callS rfl rfl rfl rfl).trans ((cl_X11_keeps_X11_lay _ _ _).trans ((gr_X11_lay _ _ _ _ _ _).trans (pbd fun _ => ?_)))
  refine (t_X11_keeps_33 _ _).trans ?_
  refine (x_callS rfl rfl rfl rfl).trans ((cl_X11_keeps_X11_lay _ _ _).trans ((gr_X11_lay _ _ _ _ _ _).trans (pbd fun _ => ?_)))
  refine (t_X11_keeps_44 _ _).trans ?_
  refine (x_callS rfl rfl rfl rfl).trans ((cl_X11_keeps_X11_lay _ _ _).trans ((gr_X11_lay _ _ _ _ _ _).trans (pbd fun _ => ?_)))
  refine (t_X11_keeps_55 _ _).trans ?_
  refine (x_callS rfl rfl rfl rfl).trans ((cl_X11_keeps_X11_lay _ _ _).trans ((gr_X11_lay _ _ _ _ _ _).trans (pbd fun _ => ?_)))
  refine (t_X11_keeps_66 _ _).trans ?_
  refine (x_callS rfl rfl rfl rfl).trans ((cl_X11_keeps_X11_lay _ _ _).trans ((gr_X11_lay _ _ _ _ _ _).trans (pbd fun _ => ?_)))
  refine (t_X11_keeps_77 _ _).trans ?_
  refine (x_callS rfl rfl rfl rfl).trans ((cl_X11_keeps_X11_lay _ _ _).trans ((gr_X11_lay _ _ _ _ _ _).trans (pbd fun _ => ?_)))
  refine (t_X11_keeps_88 _ _).trans ?_
  refine (x_callS rfl rfl rfl rfl).trans ((cl_X11_keeps_X11_lay _ _ _).trans ((gr_X11_lay _ _ _ _ _ _).trans (pbd fun _ => ?_)))
  exact x_vret
noncomputable def g_X11_keeps {ρ : Type} (σ : zH) (av : List zAV) (q : zH → zAV → Option ρ) : Option ρ := match av with
  | [.inr (.inr (.inl (11, 0)))] => (d_X11_keeps σ).bind fun σ => q σ vU
  | _ => none
theorem gr_X11_keeps {ρ : Type} (σ : zH)  (q : zH → zAV → Option ρ) : g_X11_keeps σ [vR 11 0] q = (d_X11_keeps σ).bind fun σ => q σ vU := rfl
theorem c_X11_keeps {ρ : Type} {X : zX} (hX : zHX X) {σ : zH} {av : List zAV} {q : zH → zAV → Option ρ} {r : ρ} (h : g_X11_keeps σ av q = some r) (hv : ∀ a ∈ av, zval X a) : zcon X 187 σ av q r := by
  unfold g_X11_keeps at h
  split at h
  · exact zcon_V (n := 187) (ml := 1) (rc := 9) (st := 0) (kd := 11) (np := 0) (by decide +kernel) rfl ⟨_, _, rfl, rfl⟩ (Nat.le_of_ble_eq_true rfl) hv h (fun y h1 => (zin_ok (hy_X11_keeps hX) bk_X11_keeps (fun t f hf => by
      cases hf) ((e_X11_keeps _).symm.trans h1)))
  · cases h
/-! SleepWavesModel.laysBack()V -/
def q_X11_laysBack_99 : List zEnt := zE 99 .return_ 1 :: []
def q_X11_laysBack_96 : List zEnt := zEc 96 (.invokestatic 331) 3 158 2 131 1 :: q_X11_laysBack_99
def q_X11_laysBack_88 : List zEnt := zE 88 (.aload_n 0) 1 :: zEf 89 (.getfield 157) 3 11 59 207 (2, 88, 0) :: zE 92 (.aload_n 0) 1 :: zEf 93 (.getfield 91) 3 11 28 176 (2, 69, 0) :: q_X11_laysBack_96
def q_X11_laysBack_85 : List zEnt := zEc 85 (.invokestatic 331) 3 158 2 131 1 :: q_X11_laysBack_88
def q_X11_laysBack_77 : List zEnt := zE 77 (.aload_n 0) 1 :: zEf 78 (.getfield 154) 3 11 58 206 (2, 87, 0) :: zE 81 (.aload_n 0) 1 :: zEf 82 (.getfield 88) 3 11 27 175 (2, 68, 0) :: q_X11_laysBack_85
def q_X11_laysBack_74 : List zEnt := zEc 74 (.invokestatic 331) 3 158 2 131 1 :: q_X11_laysBack_77
def q_X11_laysBack_66 : List zEnt := zE 66 (.aload_n 0) 1 :: zEf 67 (.getfield 151) 3 11 57 205 (2, 86, 0) :: zE 70 (.aload_n 0) 1 :: zEf 71 (.getfield 85) 3 11 26 174 (2, 67, 0) :: q_X11_laysBack_74
def q_X11_laysBack_63 : List zEnt := zEc 63 (.invokestatic 331) 3 158 2 131 1 :: q_X11_laysBack_66
def q_X11_laysBack_55 : List zEnt := zE 55 (.aload_n 0) 1 :: zEf 56 (.getfield 148) 3 11 56 204 (2, 85, 0) :: zE 59 (.aload_n 0) 1 :: zEf 60 (.getfield 82) 3 11 25 173 (2, 66, 0) :: q_X11_laysBack_63
def q_X11_laysBack_52 : List zEnt := zEc 52 (.invokestatic 331) 3 158 2 131 1 :: q_X11_laysBack_55
def q_X11_laysBack_44 : List zEnt := zE 44 (.aload_n 0) 1 :: zEf 45 (.getfield 145) 3 11 55 203 (2, 84, 0) :: zE 48 (.aload_n 0) 1 :: zEf 49 (.getfield 79) 3 11 24 172 (2, 65, 0) :: q_X11_laysBack_52
def q_X11_laysBack_41 : List zEnt := zEc 41 (.invokestatic 331) 3 158 2 131 1 :: q_X11_laysBack_44
def q_X11_laysBack_33 : List zEnt := zE 33 (.aload_n 0) 1 :: zEf 34 (.getfield 142) 3 11 54 202 (2, 83, 0) :: zE 37 (.aload_n 0) 1 :: zEf 38 (.getfield 76) 3 11 23 171 (2, 64, 0) :: q_X11_laysBack_41
def q_X11_laysBack_30 : List zEnt := zEc 30 (.invokestatic 331) 3 158 2 131 1 :: q_X11_laysBack_33
def q_X11_laysBack_22 : List zEnt := zE 22 (.aload_n 0) 1 :: zEf 23 (.getfield 139) 3 11 53 201 (2, 82, 0) :: zE 26 (.aload_n 0) 1 :: zEf 27 (.getfield 73) 3 11 22 170 (2, 63, 0) :: q_X11_laysBack_30
def q_X11_laysBack_19 : List zEnt := zEc 19 (.invokestatic 331) 3 158 2 131 1 :: q_X11_laysBack_22
def q_X11_laysBack_11 : List zEnt := zE 11 (.aload_n 0) 1 :: zEf 12 (.getfield 136) 3 11 52 200 (2, 81, 0) :: zE 15 (.aload_n 0) 1 :: zEf 16 (.getfield 70) 3 11 21 169 (2, 62, 0) :: q_X11_laysBack_19
def q_X11_laysBack_8 : List zEnt := zEc 8 (.invokestatic 331) 3 158 2 131 1 :: q_X11_laysBack_11
def q_X11_laysBack_0 : List zEnt := zE 0 (.aload_n 0) 1 :: zEf 1 (.getfield 133) 3 11 51 199 (2, 80, 0) :: zE 4 (.aload_n 0) 1 :: zEf 5 (.getfield 7) 3 11 1 149 (2, 42, 0) :: q_X11_laysBack_8
def b_X11_laysBack : List (Nat × List zEnt) := [(0, q_X11_laysBack_0)]
theorem bk_X11_laysBack : zchB 188 b_X11_laysBack = true := by decide +kernel
noncomputable def cc_X11_laysBack {ρ : Type} : Nat → zH → List zAV → (zH → zAV → Option ρ) → Option ρ := fun n σ av q => if n = 158 then g_X11_lay σ av q else none
theorem cs_X11_laysBack {ρ : Type} {X : zX} (hX : zHX X) : zCS X (cc_X11_laysBack (ρ := ρ)) := by
  intro n σ av q r h hv
  unfold cc_X11_laysBack at h
  by_cases e_X11_lay : n = 158
  · rw [if_pos e_X11_lay] at h
    subst e_X11_lay
    exact c_X11_lay hX h hv
  rw [if_neg e_X11_lay] at h
  cases h
theorem cl_X11_laysBack_X11_lay {ρ : Type} (σ : zH) (av : List zAV) (q : zH → zAV → Option ρ) : cc_X11_laysBack 158 σ av q = g_X11_lay σ av q := rfl
theorem hy_X11_laysBack {ρ : Type} {X : zX} (hX : zHX X) : zHY X 188 (cc_X11_laysBack (ρ := ρ)) := zHX.hY hX (cs_X11_laysBack hX) (zmok_all 188 (by decide))
theorem t_X11_laysBack_0 {G : Nat → zH → List zAV → List zAV → Option zH} (es : List zEnt) (σ : zH)    : zev cc_X11_laysBack G 9 krV (zE 0 (.aload_n 0) 1 :: zEf 1 (.getfield 133) 3 11 51 199 (2, 80, 0) :: zE 4 (.aload_n 0) 1 :: zEf 5 (.getfield 7) 3 11 1 149 (2, 42, 0) :: es) σ [vR 11 0] [] = zev cc_X11_laysBack G 9 krV es σ [vR 11 0] [vR 42 0, vR 80 0] := rfl
theorem t_X11_laysBack_11 {G : Nat → zH → List zAV → List zAV → Option zH} (es : List zEnt) (σ : zH)    : zev cc_X11_laysBack G 9 krV (zE 11 (.aload_n 0) 1 :: zEf 12 (.getfield 136) 3 11 52 200 (2, 81, 0) :: zE 15 (.aload_n 0) 1 :: zEf 16 (.getfield 70) 3 11 21 169 (2, 62, 0) :: es) σ [vR 11 0] [] = zev cc_X11_laysBack G 9 krV es σ [vR 11 0] [vR 62 0, vR 81 0] := rfl
theorem t_X11_laysBack_22 {G : Nat → zH → List zAV → List zAV → Option zH} (es : List zEnt) (σ : zH)    : zev cc_X11_laysBack G 9 krV (zE 22 (.aload_n 0) 1 :: zEf 23 (.getfield 139) 3 11 53 201 (2, 82, 0) :: zE 26 (.aload_n 0) 1 :: zEf 27 (.getfield 73) 3 11 22 170 (2, 63, 0) :: es) σ [vR 11 0] [] = zev cc_X11_laysBack G 9 krV es σ [vR 11 0] [vR 63 0, vR 82 0] := rfl
theorem t_X11_laysBack_33 {G : Nat → zH → List zAV → List zAV → Option zH} (es : List zEnt) (σ : zH)    : zev cc_X11_laysBack G 9 krV (zE 33 (.aload_n 0) 1 :: zEf 34 (.getfield 142) 3 11 54 202 (2, 83, 0) :: zE 37 (.aload_n 0) 1 :: zEf 38 (.getfield 76) 3 11 23 171 (2, 64, 0) :: es) σ [vR 11 0] [] = zev cc_X11_laysBack G 9 krV es σ [vR 11 0] [vR 64 0, vR 83 0] := rfl
theorem t_X11_laysBack_44 {G : Nat → zH → List zAV → List zAV → Option zH} (es : List zEnt) (σ : zH)    : zev cc_X11_laysBack G 9 krV (zE 44 (.aload_n 0) 1 :: zEf 45 (.getfield 145) 3 11 55 203 (2, 84, 0) :: zE 48 (.aload_n 0) 1 :: zEf 49 (.getfield 79) 3 11 24 172 (2, 65, 0) :: es) σ [vR 11 0] [] = zev cc_X11_laysBack G 9 krV es σ [vR 11 0] [vR 65 0, vR 84 0] := rfl
theorem t_X11_laysBack_55 {G : Nat → zH → List zAV → List zAV → Option zH} (es : List zEnt) (σ : zH)    : zev cc_X11_laysBack G 9 krV (zE 55 (.aload_n 0) 1 :: zEf 56 (.getfield 148) 3 11 56 204 (2, 85, 0) :: zE 59 (.aload_n 0) 1 :: zEf 60 (.getfield 82) 3 11 25 173 (2, 66, 0) :: es) σ [vR 11 0] [] = zev cc_X11_laysBack G 9 krV es σ [vR 11 0] [vR 66 0, vR 85 0] := rfl
theorem t_X11_laysBack_66 {G : Nat → zH → List zAV → List zAV → Option zH} (es : List zEnt) (σ : zH)    : zev cc_X11_laysBack G 9 krV (zE 66 (.aload_n 0) 1 :: zEf 67 (.getfield 151) 3 11 57 205 (2, 86, 0) :: zE 70 (.aload_n 0) 1 :: zEf 71 (.getfield 85) 3 11 26 174 (2, 67, 0) :: es) σ [vR 11 0] [] = zev cc_X11_laysBack G 9 krV es σ [vR 11 0] [vR 67 0, vR 86 0] := rfl
theorem t_X11_laysBack_77 {G : Nat → zH → List zAV → List zAV → Option zH} (es : List zEnt) (σ : zH)    : zev cc_X11_laysBack G 9 krV (zE 77 (.aload_n 0) 1 :: zEf 78 (.getfield 154) 3 11 58 206 (2, 87, 0) :: zE 81 (.aload_n 0) 1 :: zEf 82 (.getfield 88) 3 11 27 175 (2, 68, 0) :: es) σ [vR 11 0] [] = zev cc_X11_laysBack G 9 krV es σ [vR 11 0] [vR 68 0, vR 87 0] := rfl
theorem t_X11_laysBack_88 {G : Nat → zH → List zAV → List zAV → Option zH} (es : List zEnt) (σ : zH)    : zev cc_X11_laysBack G 9 krV (zE 88 (.aload_n 0) 1 :: zEf 89 (.getfield 157) 3 11 59 207 (2, 88, 0) :: zE 92 (.aload_n 0) 1 :: zEf 93 (.getfield 91) 3 11 28 176 (2, 69, 0) :: es) σ [vR 11 0] [] = zev cc_X11_laysBack G 9 krV es σ [vR 11 0] [vR 69 0, vR 88 0] := rfl
noncomputable def d_X11_laysBack (σ : zH)  : Option zH :=
  (d_X11_lay σ 80 0 42 0).bind fun σ1 =>
  (d_X11_lay σ1 81 0 62 0).bind fun σ2 =>
  (d_X11_lay σ2 82 0 63 0).bind fun σ3 =>
  (d_X11_lay σ3 83 0 64 0).bind fun σ4 =>
  (d_X11_lay σ4 84 0 65 0).bind fun σ5 =>
  (d_X11_lay σ5 85 0 66 0).bind fun σ6 =>
  (d_X11_lay σ6 86 0 67 0).bind fun σ7 =>
  (d_X11_lay σ7 87 0 68 0).bind fun σ8 =>
  (d_X11_lay σ8 88 0 69 0).bind fun σ9 =>
  some σ9
theorem e_X11_laysBack (σ : zH)  : d_X11_laysBack σ = zin cc_X11_laysBack (fun t => none) 9 krV b_X11_laysBack 0 σ [vR 11 0] [] := by
  unfold d_X11_laysBack
  refine Eq.symm ((zin_b (es := q_X11_laysBack_0) rfl).trans ?_)
  refine (t_X11_laysBack_0 _ _).trans ?_
  refine (x_callS rfl rfl rfl rfl).trans ((cl_X11_laysBack_X11_lay _ _ _).trans ((gr_X11_lay _ _ _ _ _ _).trans (pbd fun _ => ?_)))
  refine (t_X11_laysBack_11 _ _).trans ?_
  refine (x_callS rfl rfl rfl rfl).trans ((cl_X11_laysBack_X11_lay _ _ _).trans ((gr_X11_lay _ _ _ _ _ _).trans (pbd fun _ => ?_)))
  refine (t_X11_laysBack_22 _ _).trans ?_
  refine (x_callS rfl rfl rfl rfl).trans ((cl_X11_laysBack_X11_lay _ _ _).trans ((gr_X11_lay _ _ _ _ _ _).trans (pbd fun _ => ?_)))
  refine (t_X11_laysBack_33 _ _).trans ?_
  refine (x_callS rfl rfl rfl rfl).trans ((cl_X11_laysBack_X11_lay _ _ _).trans ((gr_X11_lay _ _ _ _ _ _).trans (pbd fun _ => ?_)))
  refine (t_X11_laysBack_44 _ _).trans ?_
  refine (x_callS rfl rfl rfl rfl).trans ((cl_X11_laysBack_X11_lay _ _ _).trans ((gr_X11_lay _ _ _ _ _ _).trans (pbd fun _ => ?_)))
  refine (t_X11_laysBack_55 _ _).trans ?_
  refine (x_callS rfl rfl rfl rfl).trans ((cl_X11_laysBack_X11_lay _ _ _).trans ((gr_X11_lay _ _ _ _ _ _).trans (pbd fun _ => ?_)))
  refine (t_X11_laysBack_66 _ _).trans ?_
  refine (x_callS rfl rfl rfl rfl).trans ((cl_X11_laysBack_X11_lay _ _ _).trans ((gr_X11_lay _ _ _ _ _ _).trans (pbd fun _ => ?_)))
  refine (t_X11_laysBack_77 _ _).trans ?_
  refine (x_callS rfl rfl rfl rfl).trans ((cl_X11_laysBack_X11_lay _ _ _).trans ((gr_X11_lay _ _ _ _ _ _).trans (pbd fun _ => ?_)))
  refine (t_X11_laysBack_88 _ _).trans ?_
  refine (x_callS rfl rfl rfl rfl).trans ((cl_X11_laysBack_X11_lay _ _ _).trans ((gr_X11_lay _ _ _ _ _ _).trans (pbd fun _ => ?_)))
  exact x_vret
noncomputable def g_X11_laysBack {ρ : Type} (σ : zH) (av : List zAV) (q : zH → zAV → Option ρ) : Option ρ := match av with
  | [.inr (.inr (.inl (11, 0)))] => (d_X11_laysBack σ).bind fun σ => q σ vU
  | _ => none
theorem gr_X11_laysBack {ρ : Type} (σ : zH)  (q : zH → zAV → Option ρ) : g_X11_laysBack σ [vR 11 0] q = (d_X11_laysBack σ).bind fun σ => q σ vU := rfl
theorem c_X11_laysBack {ρ : Type} {X : zX} (hX : zHX X) {σ : zH} {av : List zAV} {q : zH → zAV → Option ρ} {r : ρ} (h : g_X11_laysBack σ av q = some r) (hv : ∀ a ∈ av, zval X a) : zcon X 188 σ av q r := by
  unfold g_X11_laysBack at h
  split at h
  · exact zcon_V (n := 188) (ml := 1) (rc := 9) (st := 0) (kd := 11) (np := 0) (by decide +kernel) rfl ⟨_, _, rfl, rfl⟩ (Nat.le_of_ble_eq_true rfl) hv h (fun y h1 => (zin_ok (hy_X11_laysBack hX) bk_X11_laysBack (fun t f hf => by
      cases hf) ((e_X11_laysBack _).symm.trans h1)))
  · cases h
/-! SleepWavesModel.tries(IIII)I -/
def q_X11_tries_18 : List zEnt := zE 18 (.istore 5) 2 :: zEk 20 (.bipush (-2)) 2 (-2) :: zE 22 (.istore 6) 2 :: zEk 24 (.iconst 0) 1 0 :: zE 25 (.istore 7) 2 :: [zE 27 .nop 0]
def q_X11_tries_15 : List zEnt := zEc 15 (.invokevirtual 359) 3 129 2 153 0 :: q_X11_tries_18
def q_X11_tries_12 : List zEnt := zE 12 .ishl 1 :: zEk 13 (.iconst 1) 1 1 :: zE 14 .isub 1 :: q_X11_tries_15
def q_X11_tries_11 : List zEnt := zE 11 .iaload 1 :: q_X11_tries_12
def q_X11_tries_4 : List zEnt := zE 4 (.aload_n 0) 1 :: zEk 5 (.iconst 1) 1 1 :: zE 6 (.aload_n 0) 1 :: zEf 7 (.getfield 7) 3 11 1 149 (2, 42, 0) :: zEk 10 (.iconst 0) 1 0 :: q_X11_tries_11
def q_X11_tries_1 : List zEnt := zEc 1 (.invokevirtual 431) 3 187 1 169 1 :: q_X11_tries_4
def q_X11_tries_0 : List zEnt := zE 0 (.aload_n 0) 1 :: q_X11_tries_1
def q_X11_tries_43 : List zEnt := zE 43 .pop 1 :: [zE 44 .nop 0]
def q_X11_tries_40 : List zEnt := zEc 40 (.invokevirtual 434) 3 185 1 170 0 :: q_X11_tries_43
def q_X11_tries_39 : List zEnt := zE 39 (.aload_n 0) 1 :: q_X11_tries_40
def q_X11_tries_36 : List zEnt := zEa 36 (.if_icmp .ne 8) 3 44 :: q_X11_tries_39
def q_X11_tries_33 : List zEnt := zE 33 (.iload 7) 2 :: zE 35 (.iload_n 2) 1 :: q_X11_tries_36
def q_X11_tries_30 : List zEnt := zEa 30 (.if_icmp .ge 86) 3 116 :: q_X11_tries_33
def q_X11_tries_27 : List zEnt := zE 27 (.iload 7) 2 :: zE 29 (.iload_n 3) 1 :: q_X11_tries_30
def q_X11_tries_76 : List zEnt := zEa 76 (.goto 5) 3 81 :: []
def q_X11_tries_74 : List zEnt := zE 74 (.iload 9) 2 :: q_X11_tries_76
def q_X11_tries_71 : List zEnt := zEa 71 (.if_icmp .ge 8) 3 79 :: q_X11_tries_74
def q_X11_tries_65 : List zEnt := zE 65 (.istore 9) 2 :: zE 67 (.iload 9) 2 :: zE 69 (.iload 5) 2 :: q_X11_tries_71
def q_X11_tries_62 : List zEnt := zEc 62 (.invokevirtual 359) 3 129 2 153 0 :: q_X11_tries_65
def q_X11_tries_59 : List zEnt := zEc 59 (.invokevirtual 356) 3 128 1 147 0 :: q_X11_tries_62
def q_X11_tries_57 : List zEnt := zE 57 (.aload_n 0) 1 :: zE 58 (.aload_n 0) 1 :: q_X11_tries_59
def q_X11_tries_54 : List zEnt := zEc 54 (.invokevirtual 423) 3 180 2 146 1 :: q_X11_tries_57
def q_X11_tries_50 : List zEnt := zE 50 (.istore 8) 2 :: zE 52 (.aload_n 0) 1 :: zE 53 (.iload_n 1) 1 :: q_X11_tries_54
def q_X11_tries_49 : List zEnt := zE 49 .iaload 1 :: q_X11_tries_50
def q_X11_tries_44 : List zEnt := zE 44 (.aload_n 0) 1 :: zEf 45 (.getfield 7) 3 11 1 149 (2, 42, 0) :: zEk 48 (.iconst 5) 1 5 :: q_X11_tries_49
def q_X11_tries_79 : List zEnt := zE 79 (.iload 5) 2 :: [zE 81 .nop 0]
def q_X11_tries_103 : List zEnt := zEa 103 (.goto 5) 3 108 :: []
def q_X11_tries_101 : List zEnt := zE 101 (.iload 7) 2 :: q_X11_tries_103
def q_X11_tries_98 : List zEnt := zEa 98 (.if_icmp .le 8) 3 106 :: q_X11_tries_101
def q_X11_tries_96 : List zEnt := zE 96 (.iload 8) 2 :: q_X11_tries_98
def q_X11_tries_95 : List zEnt := zE 95 .iaload 1 :: q_X11_tries_96
def q_X11_tries_90 : List zEnt := zE 90 (.aload_n 0) 1 :: zEf 91 (.getfield 7) 3 11 1 149 (2, 42, 0) :: zEk 94 (.iconst 5) 1 5 :: q_X11_tries_95
def q_X11_tries_87 : List zEnt := zEa 87 (.if_icmp .ne 19) 3 106 :: q_X11_tries_90
def q_X11_tries_81 : List zEnt := zE 81 (.istore 5) 2 :: zE 83 (.iload 6) 2 :: zEk 85 (.bipush (-2)) 2 (-2) :: q_X11_tries_87
def q_X11_tries_106 : List zEnt := zE 106 (.iload 6) 2 :: [zE 108 .nop 0]
def q_X11_tries_113 : List zEnt := zEa 113 (.goto (-86)) 3 27 :: []
def q_X11_tries_108 : List zEnt := zE 108 (.istore 6) 2 :: zEk 110 (.iinc 7 1) 3 1 :: q_X11_tries_113
def q_X11_tries_116 : List zEnt := zEk 116 (.iconst 0) 1 0 :: zE 117 (.istore 7) 2 :: zEk 119 (.iconst 0) 1 0 :: zE 120 (.istore 8) 2 :: [zE 122 .nop 0]
def q_X11_tries_148 : List zEnt := zEa 148 (.goto (-26)) 3 122 :: []
def q_X11_tries_142 : List zEnt := zE 142 .iadd 1 :: zE 143 (.istore 7) 2 :: zEk 145 (.iinc 8 1) 3 1 :: q_X11_tries_148
def q_X11_tries_141 : List zEnt := zE 141 .iaload 1 :: q_X11_tries_142
def q_X11_tries_133 : List zEnt := zE 133 (.iload 7) 2 :: zE 135 (.aload_n 0) 1 :: zEf 136 (.getfield 73) 3 11 22 170 (2, 63, 0) :: zE 139 (.iload 8) 2 :: q_X11_tries_141
def q_X11_tries_130 : List zEnt := zEa 130 (.if_icmp .ge 21) 3 151 :: q_X11_tries_133
def q_X11_tries_129 : List zEnt := zE 129 .iaload 1 :: q_X11_tries_130
def q_X11_tries_122 : List zEnt := zE 122 (.iload 8) 2 :: zE 124 (.aload_n 0) 1 :: zEf 125 (.getfield 7) 3 11 1 149 (2, 42, 0) :: zEk 128 (.iconst 0) 1 0 :: q_X11_tries_129
def q_X11_tries_189 : List zEnt := (189, (.tableswitch 43 0 3 #[31, 34, 37, 40]), 31, (232, 0, 0, 0), (0, 0, 0), 0, 0, [(0, 220), (1, 223), (2, 226), (3, 229)]) :: []
def q_X11_tries_187 : List zEnt := zE 187 (.iload 4) 2 :: q_X11_tries_189
def q_X11_tries_184 : List zEnt := zEc 184 (.invokevirtual 437) 3 188 1 171 1 :: q_X11_tries_187
def q_X11_tries_180 : List zEnt := zE 180 .isub 1 :: zE 181 (.istore 9) 2 :: zE 183 (.aload_n 0) 1 :: q_X11_tries_184
def q_X11_tries_179 : List zEnt := zE 179 .iaload 1 :: q_X11_tries_180
def q_X11_tries_173 : List zEnt := zE 173 (.aload_n 0) 1 :: zEf 174 (.getfield 133) 3 11 51 199 (2, 80, 0) :: zEk 177 (.bipush 7) 2 7 :: q_X11_tries_179
def q_X11_tries_172 : List zEnt := zE 172 .iaload 1 :: q_X11_tries_173
def q_X11_tries_163 : List zEnt := zE 163 .isub 1 :: zE 164 (.istore 8) 2 :: zE 166 (.aload_n 0) 1 :: zEf 167 (.getfield 7) 3 11 1 149 (2, 42, 0) :: zEk 170 (.bipush 7) 2 7 :: q_X11_tries_172
def q_X11_tries_162 : List zEnt := zE 162 .iaload 1 :: q_X11_tries_163
def q_X11_tries_157 : List zEnt := zE 157 (.aload_n 0) 1 :: zEf 158 (.getfield 133) 3 11 51 199 (2, 80, 0) :: zEk 161 (.iconst 5) 1 5 :: q_X11_tries_162
def q_X11_tries_156 : List zEnt := zE 156 .iaload 1 :: q_X11_tries_157
def q_X11_tries_151 : List zEnt := zE 151 (.aload_n 0) 1 :: zEf 152 (.getfield 7) 3 11 1 149 (2, 42, 0) :: zEk 155 (.iconst 5) 1 5 :: q_X11_tries_156
def q_X11_tries_222 : List zEnt := zE 222 .ireturn 1 :: []
def q_X11_tries_220 : List zEnt := zE 220 (.iload 5) 2 :: q_X11_tries_222
def q_X11_tries_225 : List zEnt := zE 225 .ireturn 1 :: []
def q_X11_tries_223 : List zEnt := zE 223 (.iload 8) 2 :: q_X11_tries_225
def q_X11_tries_228 : List zEnt := zE 228 .ireturn 1 :: []
def q_X11_tries_226 : List zEnt := zE 226 (.iload 6) 2 :: q_X11_tries_228
def q_X11_tries_231 : List zEnt := zE 231 .ireturn 1 :: []
def q_X11_tries_229 : List zEnt := zE 229 (.iload 7) 2 :: q_X11_tries_231
def q_X11_tries_234 : List zEnt := zE 234 .ireturn 1 :: []
def q_X11_tries_232 : List zEnt := zE 232 (.iload 9) 2 :: q_X11_tries_234
def b_X11_tries : List (Nat × List zEnt) := [(0, q_X11_tries_0), (27, q_X11_tries_27), (44, q_X11_tries_44), (79, q_X11_tries_79), (81, q_X11_tries_81), (106, q_X11_tries_106), (108, q_X11_tries_108), (116, q_X11_tries_116), (122, q_X11_tries_122), (151, q_X11_tries_151), (220, q_X11_tries_220), (223, q_X11_tries_223), (226, q_X11_tries_226), (229, q_X11_tries_229), (232, q_X11_tries_232)]
theorem bk_X11_tries : zchB 189 b_X11_tries = true := by decide +kernel
noncomputable def cc_X11_tries {ρ : Type} : Nat → zH → List zAV → (zH → zAV → Option ρ) → Option ρ := fun n σ av q => if n = 187 then g_X11_keeps σ av q else if n = 129 then g_X11_menOf σ av q else if n = 185 then g_X11_drum σ av q else if n = 180 then g_X11_quarter σ av q else if n = 128 then g_X11_upSet σ av q else if n = 188 then g_X11_laysBack σ av q else none
theorem cs_X11_tries {ρ : Type} {X : zX} (hX : zHX X) : zCS X (cc_X11_tries (ρ := ρ)) := by
  intro n σ av q r h hv
  unfold cc_X11_tries at h
  by_cases e_X11_keeps : n = 187
  · rw [if_pos e_X11_keeps] at h
    subst e_X11_keeps
    exact c_X11_keeps hX h hv
  rw [if_neg e_X11_keeps] at h
  by_cases e_X11_menOf : n = 129
  · rw [if_pos e_X11_menOf] at h
    subst e_X11_menOf
    exact c_X11_menOf hX h hv
  rw [if_neg e_X11_menOf] at h
  by_cases e_X11_drum : n = 185
  · rw [if_pos e_X11_drum] at h
    subst e_X11_drum
    exact c_X11_drum hX h hv
  rw [if_neg e_X11_drum] at h
  by_cases e_X11_quarter : n = 180
  · rw [if_pos e_X11_quarter] at h
    subst e_X11_quarter
    exact c_X11_quarter hX h hv
  rw [if_neg e_X11_quarter] at h
  by_cases e_X11_upSet : n = 128
  · rw [if_pos e_X11_upSet] at h
    subst e_X11_upSet
    exact c_X11_upSet hX h hv
  rw [if_neg e_X11_upSet] at h
  by_cases e_X11_laysBack : n = 188
  · rw [if_pos e_X11_laysBack] at h
    subst e_X11_laysBack
    exact c_X11_laysBack hX h hv
  rw [if_neg e_X11_laysBack] at h
  cases h
theorem cl_X11_tries_X11_keeps {ρ : Type} (σ : zH) (av : List zAV) (q : zH → zAV → Option ρ) : cc_X11_tries 187 σ av q = g_X11_keeps σ av q := rfl
theorem cl_X11_tries_X11_menOf {ρ : Type} (σ : zH) (av : List zAV) (q : zH → zAV → Option ρ) : cc_X11_tries 129 σ av q = g_X11_menOf σ av q := rfl
theorem cl_X11_tries_X11_drum {ρ : Type} (σ : zH) (av : List zAV) (q : zH → zAV → Option ρ) : cc_X11_tries 185 σ av q = g_X11_drum σ av q := rfl
theorem cl_X11_tries_X11_quarter {ρ : Type} (σ : zH) (av : List zAV) (q : zH → zAV → Option ρ) : cc_X11_tries 180 σ av q = g_X11_quarter σ av q := rfl
theorem cl_X11_tries_X11_upSet {ρ : Type} (σ : zH) (av : List zAV) (q : zH → zAV → Option ρ) : cc_X11_tries 128 σ av q = g_X11_upSet σ av q := rfl
theorem cl_X11_tries_X11_laysBack {ρ : Type} (σ : zH) (av : List zAV) (q : zH → zAV → Option ρ) : cc_X11_tries 188 σ av q = g_X11_laysBack σ av q := rfl
theorem hy_X11_tries {ρ : Type} {X : zX} (hX : zHX X) : zHY X 189 (cc_X11_tries (ρ := ρ)) := zHX.hY hX (cs_X11_tries hX) (zmok_all 189 (by decide))
def gl_X11_tries_27 {ρ : Type} (f : zH → Int32 → Int32 → Int32 → Int32 → Int32 → Int32 → Int32 → Option ρ) (σ : zH) (L st : List zAV) : Option ρ := match L, st with
  | [.inr (.inr (.inl (11, 0))), .inl x1, .inl x2, .inl x3, .inl x4, .inl x5, .inl x6, .inl x7, _, _], [] => f σ x1 x2 x3 x4 x5 x6 x7
  | _, _ => none
def gl_X11_tries_44 {ρ : Type} (f : zH → Int32 → Int32 → Int32 → Int32 → Int32 → Int32 → Int32 → Option ρ) (σ : zH) (L st : List zAV) : Option ρ := match L, st with
  | [.inr (.inr (.inl (11, 0))), .inl x1, .inl x2, .inl x3, .inl x4, .inl x5, .inl x6, .inl x7, _, _], [] => f σ x1 x2 x3 x4 x5 x6 x7
  | _, _ => none
def gl_X11_tries_81 {ρ : Type} (f : zH → Int32 → Int32 → Int32 → Int32 → Int32 → Int32 → Int32 → Int32 → Option ρ) (σ : zH) (L st : List zAV) : Option ρ := match L, st with
  | [.inr (.inr (.inl (11, 0))), .inl x1, .inl x2, .inl x3, .inl x4, _, .inl x6, .inl x7, .inl x8, _], [.inl xs0] => f σ x1 x2 x3 x4 x6 x7 x8 xs0
  | _, _ => none
def gl_X11_tries_106 {ρ : Type} (f : zH → Int32 → Int32 → Int32 → Int32 → Int32 → Int32 → Int32 → Option ρ) (σ : zH) (L st : List zAV) : Option ρ := match L, st with
  | [.inr (.inr (.inl (11, 0))), .inl x1, .inl x2, .inl x3, .inl x4, .inl x5, .inl x6, .inl x7, _, _], [] => f σ x1 x2 x3 x4 x5 x6 x7
  | _, _ => none
def gl_X11_tries_108 {ρ : Type} (f : zH → Int32 → Int32 → Int32 → Int32 → Int32 → Int32 → Int32 → Option ρ) (σ : zH) (L st : List zAV) : Option ρ := match L, st with
  | [.inr (.inr (.inl (11, 0))), .inl x1, .inl x2, .inl x3, .inl x4, .inl x5, _, .inl x7, _, _], [.inl xs0] => f σ x1 x2 x3 x4 x5 x7 xs0
  | _, _ => none
def gl_X11_tries_116 {ρ : Type} (f : zH → Int32 → Int32 → Int32 → Option ρ) (σ : zH) (L st : List zAV) : Option ρ := match L, st with
  | [.inr (.inr (.inl (11, 0))), _, _, _, .inl x4, .inl x5, .inl x6, _, _, _], [] => f σ x4 x5 x6
  | _, _ => none
def gl_X11_tries_122 {ρ : Type} (f : zH → Int32 → Int32 → Int32 → Int32 → Int32 → Option ρ) (σ : zH) (L st : List zAV) : Option ρ := match L, st with
  | [.inr (.inr (.inl (11, 0))), _, _, _, .inl x4, .inl x5, .inl x6, .inl x7, .inl x8, _], [] => f σ x4 x5 x6 x7 x8
  | _, _ => none
def gl_X11_tries_151 {ρ : Type} (f : zH → Int32 → Int32 → Int32 → Int32 → Option ρ) (σ : zH) (L st : List zAV) : Option ρ := match L, st with
  | [.inr (.inr (.inl (11, 0))), _, _, _, .inl x4, .inl x5, .inl x6, .inl x7, _, _], [] => f σ x4 x5 x6 x7
  | _, _ => none
theorem glr_X11_tries_27 {ρ : Type} (f : zH → Int32 → Int32 → Int32 → Int32 → Int32 → Int32 → Int32 → Option ρ) (σ : zH) (x1 : Int32) (x2 : Int32) (x3 : Int32) (x4 : Int32) (x5 : Int32) (x6 : Int32) (x7 : Int32) (y8 : zAV) (y9 : zAV) : gl_X11_tries_27 f σ [vR 11 0, vI x1, vI x2, vI x3, vI x4, vI x5, vI x6, vI x7, y8, y9] [] = f σ x1 x2 x3 x4 x5 x6 x7 := rfl
theorem glr_X11_tries_44 {ρ : Type} (f : zH → Int32 → Int32 → Int32 → Int32 → Int32 → Int32 → Int32 → Option ρ) (σ : zH) (x1 : Int32) (x2 : Int32) (x3 : Int32) (x4 : Int32) (x5 : Int32) (x6 : Int32) (x7 : Int32) (y8 : zAV) (y9 : zAV) : gl_X11_tries_44 f σ [vR 11 0, vI x1, vI x2, vI x3, vI x4, vI x5, vI x6, vI x7, y8, y9] [] = f σ x1 x2 x3 x4 x5 x6 x7 := rfl
theorem glr_X11_tries_81 {ρ : Type} (f : zH → Int32 → Int32 → Int32 → Int32 → Int32 → Int32 → Int32 → Int32 → Option ρ) (σ : zH) (x1 : Int32) (x2 : Int32) (x3 : Int32) (x4 : Int32) (x6 : Int32) (x7 : Int32) (x8 : Int32) (xs0 : Int32) (y5 : zAV) (y9 : zAV) : gl_X11_tries_81 f σ [vR 11 0, vI x1, vI x2, vI x3, vI x4, y5, vI x6, vI x7, vI x8, y9] [vI xs0] = f σ x1 x2 x3 x4 x6 x7 x8 xs0 := rfl
theorem glr_X11_tries_106 {ρ : Type} (f : zH → Int32 → Int32 → Int32 → Int32 → Int32 → Int32 → Int32 → Option ρ) (σ : zH) (x1 : Int32) (x2 : Int32) (x3 : Int32) (x4 : Int32) (x5 : Int32) (x6 : Int32) (x7 : Int32) (y8 : zAV) (y9 : zAV) : gl_X11_tries_106 f σ [vR 11 0, vI x1, vI x2, vI x3, vI x4, vI x5, vI x6, vI x7, y8, y9] [] = f σ x1 x2 x3 x4 x5 x6 x7 := rfl
theorem glr_X11_tries_108 {ρ : Type} (f : zH → Int32 → Int32 → Int32 → Int32 → Int32 → Int32 → Int32 → Option ρ) (σ : zH) (x1 : Int32) (x2 : Int32) (x3 : Int32) (x4 : Int32) (x5 : Int32) (x7 : Int32) (xs0 : Int32) (y6 : zAV) (y8 : zAV) (y9 : zAV) : gl_X11_tries_108 f σ [vR 11 0, vI x1, vI x2, vI x3, vI x4, vI x5, y6, vI x7, y8, y9] [vI xs0] = f σ x1 x2 x3 x4 x5 x7 xs0 := rfl
theorem glr_X11_tries_116 {ρ : Type} (f : zH → Int32 → Int32 → Int32 → Option ρ) (σ : zH) (x4 : Int32) (x5 : Int32) (x6 : Int32) (y1 : zAV) (y2 : zAV) (y3 : zAV) (y7 : zAV) (y8 : zAV) (y9 : zAV) : gl_X11_tries_116 f σ [vR 11 0, y1, y2, y3, vI x4, vI x5, vI x6, y7, y8, y9] [] = f σ x4 x5 x6 := rfl
theorem glr_X11_tries_122 {ρ : Type} (f : zH → Int32 → Int32 → Int32 → Int32 → Int32 → Option ρ) (σ : zH) (x4 : Int32) (x5 : Int32) (x6 : Int32) (x7 : Int32) (x8 : Int32) (y1 : zAV) (y2 : zAV) (y3 : zAV) (y9 : zAV) : gl_X11_tries_122 f σ [vR 11 0, y1, y2, y3, vI x4, vI x5, vI x6, vI x7, vI x8, y9] [] = f σ x4 x5 x6 x7 x8 := rfl
theorem glr_X11_tries_151 {ρ : Type} (f : zH → Int32 → Int32 → Int32 → Int32 → Option ρ) (σ : zH) (x4 : Int32) (x5 : Int32) (x6 : Int32) (x7 : Int32) (y1 : zAV) (y2 : zAV) (y3 : zAV) (y8 : zAV) (y9 : zAV) : gl_X11_tries_151 f σ [vR 11 0, y1, y2, y3, vI x4, vI x5, vI x6, vI x7, y8, y9] [] = f σ x4 x5 x6 x7 := rfl
theorem t_X11_tries_0 {G : Nat → zH → List zAV → List zAV → Option (zH × Int32)} (es : List zEnt) (σ : zH) (x1 : Int32) (x2 : Int32) (x3 : Int32) (x4 : Int32) (y5 : zAV) (y6 : zAV) (y7 : zAV) (y8 : zAV) (y9 : zAV)  : zev cc_X11_tries G 0 krI (zE 0 (.aload_n 0) 1 :: es) σ [vR 11 0, vI x1, vI x2, vI x3, vI x4, y5, y6, y7, y8, y9] [] = zev cc_X11_tries G 0 krI es σ [vR 11 0, vI x1, vI x2, vI x3, vI x4, y5, y6, y7, y8, y9] [vR 11 0] := rfl
theorem t_X11_tries_4 {G : Nat → zH → List zAV → List zAV → Option (zH × Int32)} (es : List zEnt) (σ : zH) (x1 : Int32) (x2 : Int32) (x3 : Int32) (x4 : Int32) (y5 : zAV) (y6 : zAV) (y7 : zAV) (y8 : zAV) (y9 : zAV) (w5 : Int32) (w10 : Int32) : zev cc_X11_tries G 0 krI (zE 4 (.aload_n 0) 1 :: zEk 5 (.iconst 1) 1 w5 :: zE 6 (.aload_n 0) 1 :: zEf 7 (.getfield 7) 3 11 1 149 (2, 42, 0) :: zEk 10 (.iconst 0) 1 w10 :: es) σ [vR 11 0, vI x1, vI x2, vI x3, vI x4, y5, y6, y7, y8, y9] [] = zev cc_X11_tries G 0 krI es σ [vR 11 0, vI x1, vI x2, vI x3, vI x4, y5, y6, y7, y8, y9] [vI w10, vR 42 0, vI w5, vR 11 0] := rfl
theorem t_X11_tries_12 {G : Nat → zH → List zAV → List zAV → Option (zH × Int32)} (es : List zEnt) (σ : zH) (x1 : Int32) (x2 : Int32) (x3 : Int32) (x4 : Int32) (xs1 : Int32) (xs2 : Int32) (y5 : zAV) (y6 : zAV) (y7 : zAV) (y8 : zAV) (y9 : zAV) (w13 : Int32) : zev cc_X11_tries G 0 krI (zE 12 .ishl 1 :: zEk 13 (.iconst 1) 1 w13 :: zE 14 .isub 1 :: es) σ [vR 11 0, vI x1, vI x2, vI x3, vI x4, y5, y6, y7, y8, y9] [vI xs2, vI xs1, vR 11 0] = zev cc_X11_tries G 0 krI es σ [vR 11 0, vI x1, vI x2, vI x3, vI x4, y5, y6, y7, y8, y9] [vI ((xs1 <<< (xs2 &&& 31)) - w13), vR 11 0] := rfl
theorem t_X11_tries_18 {G : Nat → zH → List zAV → List zAV → Option (zH × Int32)} (es : List zEnt) (σ : zH) (x1 : Int32) (x2 : Int32) (x3 : Int32) (x4 : Int32) (xs0 : Int32) (y5 : zAV) (y6 : zAV) (y7 : zAV) (y8 : zAV) (y9 : zAV) (w20 : Int32) (w24 : Int32) : zev cc_X11_tries G 0 krI (zE 18 (.istore 5) 2 :: zEk 20 (.bipush (-2)) 2 w20 :: zE 22 (.istore 6) 2 :: zEk 24 (.iconst 0) 1 w24 :: zE 25 (.istore 7) 2 :: es) σ [vR 11 0, vI x1, vI x2, vI x3, vI x4, y5, y6, y7, y8, y9] [vI xs0] = zev cc_X11_tries G 0 krI es σ [vR 11 0, vI x1, vI x2, vI x3, vI x4, vI xs0, vI w20, vI w24, y8, y9] [] := rfl
theorem t_X11_tries_27 {G : Nat → zH → List zAV → List zAV → Option (zH × Int32)} (es : List zEnt) (σ : zH) (x1 : Int32) (x2 : Int32) (x3 : Int32) (x4 : Int32) (x5 : Int32) (x6 : Int32) (x7 : Int32) (y8 : zAV) (y9 : zAV)  : zev cc_X11_tries G 0 krI (zE 27 (.iload 7) 2 :: zE 29 (.iload_n 3) 1 :: es) σ [vR 11 0, vI x1, vI x2, vI x3, vI x4, vI x5, vI x6, vI x7, y8, y9] [] = zev cc_X11_tries G 0 krI es σ [vR 11 0, vI x1, vI x2, vI x3, vI x4, vI x5, vI x6, vI x7, y8, y9] [vI x3, vI x7] := rfl
theorem t_X11_tries_33 {G : Nat → zH → List zAV → List zAV → Option (zH × Int32)} (es : List zEnt) (σ : zH) (x1 : Int32) (x2 : Int32) (x3 : Int32) (x4 : Int32) (x5 : Int32) (x6 : Int32) (x7 : Int32) (y8 : zAV) (y9 : zAV)  : zev cc_X11_tries G 0 krI (zE 33 (.iload 7) 2 :: zE 35 (.iload_n 2) 1 :: es) σ [vR 11 0, vI x1, vI x2, vI x3, vI x4, vI x5, vI x6, vI x7, y8, y9] [] = zev cc_X11_tries G 0 krI es σ [vR 11 0, vI x1, vI x2, vI x3, vI x4, vI x5, vI x6, vI x7, y8, y9] [vI x2, vI x7] := rfl
theorem t_X11_tries_39 {G : Nat → zH → List zAV → List zAV → Option (zH × Int32)} (es : List zEnt) (σ : zH) (x1 : Int32) (x2 : Int32) (x3 : Int32) (x4 : Int32) (x5 : Int32) (x6 : Int32) (x7 : Int32) (y8 : zAV) (y9 : zAV)  : zev cc_X11_tries G 0 krI (zE 39 (.aload_n 0) 1 :: es) σ [vR 11 0, vI x1, vI x2, vI x3, vI x4, vI x5, vI x6, vI x7, y8, y9] [] = zev cc_X11_tries G 0 krI es σ [vR 11 0, vI x1, vI x2, vI x3, vI x4, vI x5, vI x6, vI x7, y8, y9] [vR 11 0] := rfl
theorem t_X11_tries_43 {G : Nat → zH → List zAV → List zAV → Option (zH × Int32)} (es : List zEnt) (σ : zH) (x1 : Int32) (x2 : Int32) (x3 : Int32) (x4 : Int32) (x5 : Int32) (x6 : Int32) (x7 : Int32) (xs0 : Int32) (y8 : zAV) (y9 : zAV)  : zev cc_X11_tries G 0 krI (zE 43 .pop 1 :: es) σ [vR 11 0, vI x1, vI x2, vI x3, vI x4, vI x5, vI x6, vI x7, y8, y9] [vI xs0] = zev cc_X11_tries G 0 krI es σ [vR 11 0, vI x1, vI x2, vI x3, vI x4, vI x5, vI x6, vI x7, y8, y9] [] := rfl
theorem t_X11_tries_44 {G : Nat → zH → List zAV → List zAV → Option (zH × Int32)} (es : List zEnt) (σ : zH) (x1 : Int32) (x2 : Int32) (x3 : Int32) (x4 : Int32) (x5 : Int32) (x6 : Int32) (x7 : Int32) (y8 : zAV) (y9 : zAV) (w48 : Int32) : zev cc_X11_tries G 0 krI (zE 44 (.aload_n 0) 1 :: zEf 45 (.getfield 7) 3 11 1 149 (2, 42, 0) :: zEk 48 (.iconst 5) 1 w48 :: es) σ [vR 11 0, vI x1, vI x2, vI x3, vI x4, vI x5, vI x6, vI x7, y8, y9] [] = zev cc_X11_tries G 0 krI es σ [vR 11 0, vI x1, vI x2, vI x3, vI x4, vI x5, vI x6, vI x7, y8, y9] [vI w48, vR 42 0] := rfl
theorem t_X11_tries_50 {G : Nat → zH → List zAV → List zAV → Option (zH × Int32)} (es : List zEnt) (σ : zH) (x1 : Int32) (x2 : Int32) (x3 : Int32) (x4 : Int32) (x5 : Int32) (x6 : Int32) (x7 : Int32) (xs0 : Int32) (y8 : zAV) (y9 : zAV)  : zev cc_X11_tries G 0 krI (zE 50 (.istore 8) 2 :: zE 52 (.aload_n 0) 1 :: zE 53 (.iload_n 1) 1 :: es) σ [vR 11 0, vI x1, vI x2, vI x3, vI x4, vI x5, vI x6, vI x7, y8, y9] [vI xs0] = zev cc_X11_tries G 0 krI es σ [vR 11 0, vI x1, vI x2, vI x3, vI x4, vI x5, vI x6, vI x7, vI xs0, y9] [vI x1, vR 11 0] := rfl
theorem t_X11_tries_57 {G : Nat → zH → List zAV → List zAV → Option (zH × Int32)} (es : List zEnt) (σ : zH) (x1 : Int32) (x2 : Int32) (x3 : Int32) (x4 : Int32) (x5 : Int32) (x6 : Int32) (x7 : Int32) (x8 : Int32) (y9 : zAV)  : zev cc_X11_tries G 0 krI (zE 57 (.aload_n 0) 1 :: zE 58 (.aload_n 0) 1 :: es) σ [vR 11 0, vI x1, vI x2, vI x3, vI x4, vI x5, vI x6, vI x7, vI x8, y9] [] = zev cc_X11_tries G 0 krI es σ [vR 11 0, vI x1, vI x2, vI x3, vI x4, vI x5, vI x6, vI x7, vI x8, y9] [vR 11 0, vR 11 0] := rfl
theorem t_X11_tries_65 {G : Nat → zH → List zAV → List zAV → Option (zH × Int32)} (es : List zEnt) (σ : zH) (x1 : Int32) (x2 : Int32) (x3 : Int32) (x4 : Int32) (x5 : Int32) (x6 : Int32) (x7 : Int32) (x8 : Int32) (xs0 : Int32) (y9 : zAV)  : zev cc_X11_tries G 0 krI (zE 65 (.istore 9) 2 :: zE 67 (.iload 9) 2 :: zE 69 (.iload 5) 2 :: es) σ [vR 11 0, vI x1, vI x2, vI x3, vI x4, vI x5, vI x6, vI x7, vI x8, y9] [vI xs0] = zev cc_X11_tries G 0 krI es σ [vR 11 0, vI x1, vI x2, vI x3, vI x4, vI x5, vI x6, vI x7, vI x8, vI xs0] [vI x5, vI xs0] := rfl
theorem t_X11_tries_74 {G : Nat → zH → List zAV → List zAV → Option (zH × Int32)} (es : List zEnt) (σ : zH) (x1 : Int32) (x2 : Int32) (x3 : Int32) (x4 : Int32) (x6 : Int32) (x7 : Int32) (x8 : Int32) (x9 : Int32) (y5 : zAV)  : zev cc_X11_tries G 0 krI (zE 74 (.iload 9) 2 :: es) σ [vR 11 0, vI x1, vI x2, vI x3, vI x4, y5, vI x6, vI x7, vI x8, vI x9] [] = zev cc_X11_tries G 0 krI es σ [vR 11 0, vI x1, vI x2, vI x3, vI x4, y5, vI x6, vI x7, vI x8, vI x9] [vI x9] := rfl
theorem t_X11_tries_79 {G : Nat → zH → List zAV → List zAV → Option (zH × Int32)} (es : List zEnt) (σ : zH) (x1 : Int32) (x2 : Int32) (x3 : Int32) (x4 : Int32) (x5 : Int32) (x6 : Int32) (x7 : Int32) (x8 : Int32) (y9 : zAV)  : zev cc_X11_tries G 0 krI (zE 79 (.iload 5) 2 :: es) σ [vR 11 0, vI x1, vI x2, vI x3, vI x4, vI x5, vI x6, vI x7, vI x8, y9] [] = zev cc_X11_tries G 0 krI es σ [vR 11 0, vI x1, vI x2, vI x3, vI x4, vI x5, vI x6, vI x7, vI x8, y9] [vI x5] := rfl
theorem t_X11_tries_81 {G : Nat → zH → List zAV → List zAV → Option (zH × Int32)} (es : List zEnt) (σ : zH) (x1 : Int32) (x2 : Int32) (x3 : Int32) (x4 : Int32) (x6 : Int32) (x7 : Int32) (x8 : Int32) (xs0 : Int32) (y5 : zAV) (y9 : zAV) (w85 : Int32) : zev cc_X11_tries G 0 krI (zE 81 (.istore 5) 2 :: zE 83 (.iload 6) 2 :: zEk 85 (.bipush (-2)) 2 w85 :: es) σ [vR 11 0, vI x1, vI x2, vI x3, vI x4, y5, vI x6, vI x7, vI x8, y9] [vI xs0] = zev cc_X11_tries G 0 krI es σ [vR 11 0, vI x1, vI x2, vI x3, vI x4, vI xs0, vI x6, vI x7, vI x8, y9] [vI w85, vI x6] := rfl
theorem t_X11_tries_90 {G : Nat → zH → List zAV → List zAV → Option (zH × Int32)} (es : List zEnt) (σ : zH) (x1 : Int32) (x2 : Int32) (x3 : Int32) (x4 : Int32) (x5 : Int32) (x6 : Int32) (x7 : Int32) (x8 : Int32) (y9 : zAV) (w94 : Int32) : zev cc_X11_tries G 0 krI (zE 90 (.aload_n 0) 1 :: zEf 91 (.getfield 7) 3 11 1 149 (2, 42, 0) :: zEk 94 (.iconst 5) 1 w94 :: es) σ [vR 11 0, vI x1, vI x2, vI x3, vI x4, vI x5, vI x6, vI x7, vI x8, y9] [] = zev cc_X11_tries G 0 krI es σ [vR 11 0, vI x1, vI x2, vI x3, vI x4, vI x5, vI x6, vI x7, vI x8, y9] [vI w94, vR 42 0] := rfl
theorem t_X11_tries_96 {G : Nat → zH → List zAV → List zAV → Option (zH × Int32)} (es : List zEnt) (σ : zH) (x1 : Int32) (x2 : Int32) (x3 : Int32) (x4 : Int32) (x5 : Int32) (x6 : Int32) (x7 : Int32) (x8 : Int32) (xs0 : Int32) (y9 : zAV)  : zev cc_X11_tries G 0 krI (zE 96 (.iload 8) 2 :: es) σ [vR 11 0, vI x1, vI x2, vI x3, vI x4, vI x5, vI x6, vI x7, vI x8, y9] [vI xs0] = zev cc_X11_tries G 0 krI es σ [vR 11 0, vI x1, vI x2, vI x3, vI x4, vI x5, vI x6, vI x7, vI x8, y9] [vI x8, vI xs0] := rfl
theorem t_X11_tries_101 {G : Nat → zH → List zAV → List zAV → Option (zH × Int32)} (es : List zEnt) (σ : zH) (x1 : Int32) (x2 : Int32) (x3 : Int32) (x4 : Int32) (x5 : Int32) (x7 : Int32) (y6 : zAV) (y8 : zAV) (y9 : zAV)  : zev cc_X11_tries G 0 krI (zE 101 (.iload 7) 2 :: es) σ [vR 11 0, vI x1, vI x2, vI x3, vI x4, vI x5, y6, vI x7, y8, y9] [] = zev cc_X11_tries G 0 krI es σ [vR 11 0, vI x1, vI x2, vI x3, vI x4, vI x5, y6, vI x7, y8, y9] [vI x7] := rfl
theorem t_X11_tries_106 {G : Nat → zH → List zAV → List zAV → Option (zH × Int32)} (es : List zEnt) (σ : zH) (x1 : Int32) (x2 : Int32) (x3 : Int32) (x4 : Int32) (x5 : Int32) (x6 : Int32) (x7 : Int32) (y8 : zAV) (y9 : zAV)  : zev cc_X11_tries G 0 krI (zE 106 (.iload 6) 2 :: es) σ [vR 11 0, vI x1, vI x2, vI x3, vI x4, vI x5, vI x6, vI x7, y8, y9] [] = zev cc_X11_tries G 0 krI es σ [vR 11 0, vI x1, vI x2, vI x3, vI x4, vI x5, vI x6, vI x7, y8, y9] [vI x6] := rfl
theorem t_X11_tries_108 {G : Nat → zH → List zAV → List zAV → Option (zH × Int32)} (es : List zEnt) (σ : zH) (x1 : Int32) (x2 : Int32) (x3 : Int32) (x4 : Int32) (x5 : Int32) (x7 : Int32) (xs0 : Int32) (y6 : zAV) (y8 : zAV) (y9 : zAV) (w110 : Int32) : zev cc_X11_tries G 0 krI (zE 108 (.istore 6) 2 :: zEk 110 (.iinc 7 1) 3 w110 :: es) σ [vR 11 0, vI x1, vI x2, vI x3, vI x4, vI x5, y6, vI x7, y8, y9] [vI xs0] = zev cc_X11_tries G 0 krI es σ [vR 11 0, vI x1, vI x2, vI x3, vI x4, vI x5, vI xs0, vI (x7 + w110), y8, y9] [] := rfl
theorem t_X11_tries_116 {G : Nat → zH → List zAV → List zAV → Option (zH × Int32)} (es : List zEnt) (σ : zH) (x4 : Int32) (x5 : Int32) (x6 : Int32) (y1 : zAV) (y2 : zAV) (y3 : zAV) (y7 : zAV) (y8 : zAV) (y9 : zAV) (w116 : Int32) (w119 : Int32) : zev cc_X11_tries G 0 krI (zEk 116 (.iconst 0) 1 w116 :: zE 117 (.istore 7) 2 :: zEk 119 (.iconst 0) 1 w119 :: zE 120 (.istore 8) 2 :: es) σ [vR 11 0, y1, y2, y3, vI x4, vI x5, vI x6, y7, y8, y9] [] = zev cc_X11_tries G 0 krI es σ [vR 11 0, y1, y2, y3, vI x4, vI x5, vI x6, vI w116, vI w119, y9] [] := rfl
theorem t_X11_tries_122 {G : Nat → zH → List zAV → List zAV → Option (zH × Int32)} (es : List zEnt) (σ : zH) (x4 : Int32) (x5 : Int32) (x6 : Int32) (x7 : Int32) (x8 : Int32) (y1 : zAV) (y2 : zAV) (y3 : zAV) (y9 : zAV) (w128 : Int32) : zev cc_X11_tries G 0 krI (zE 122 (.iload 8) 2 :: zE 124 (.aload_n 0) 1 :: zEf 125 (.getfield 7) 3 11 1 149 (2, 42, 0) :: zEk 128 (.iconst 0) 1 w128 :: es) σ [vR 11 0, y1, y2, y3, vI x4, vI x5, vI x6, vI x7, vI x8, y9] [] = zev cc_X11_tries G 0 krI es σ [vR 11 0, y1, y2, y3, vI x4, vI x5, vI x6, vI x7, vI x8, y9] [vI w128, vR 42 0, vI x8] := rfl
theorem t_X11_tries_133 {G : Nat → zH → List zAV → List zAV → Option (zH × Int32)} (es : List zEnt) (σ : zH) (x4 : Int32) (x5 : Int32) (x6 : Int32) (x7 : Int32) (x8 : Int32) (y1 : zAV) (y2 : zAV) (y3 : zAV) (y9 : zAV)  : zev cc_X11_tries G 0 krI (zE 133 (.iload 7) 2 :: zE 135 (.aload_n 0) 1 :: zEf 136 (.getfield 73) 3 11 22 170 (2, 63, 0) :: zE 139 (.iload 8) 2 :: es) σ [vR 11 0, y1, y2, y3, vI x4, vI x5, vI x6, vI x7, vI x8, y9] [] = zev cc_X11_tries G 0 krI es σ [vR 11 0, y1, y2, y3, vI x4, vI x5, vI x6, vI x7, vI x8, y9] [vI x8, vR 63 0, vI x7] := rfl
theorem t_X11_tries_142 {G : Nat → zH → List zAV → List zAV → Option (zH × Int32)} (es : List zEnt) (σ : zH) (x4 : Int32) (x5 : Int32) (x6 : Int32) (x8 : Int32) (xs0 : Int32) (xs1 : Int32) (y1 : zAV) (y2 : zAV) (y3 : zAV) (y7 : zAV) (y9 : zAV) (w145 : Int32) : zev cc_X11_tries G 0 krI (zE 142 .iadd 1 :: zE 143 (.istore 7) 2 :: zEk 145 (.iinc 8 1) 3 w145 :: es) σ [vR 11 0, y1, y2, y3, vI x4, vI x5, vI x6, y7, vI x8, y9] [vI xs1, vI xs0] = zev cc_X11_tries G 0 krI es σ [vR 11 0, y1, y2, y3, vI x4, vI x5, vI x6, vI (xs0 + xs1), vI (x8 + w145), y9] [] := rfl
theorem t_X11_tries_151 {G : Nat → zH → List zAV → List zAV → Option (zH × Int32)} (es : List zEnt) (σ : zH) (x4 : Int32) (x5 : Int32) (x6 : Int32) (x7 : Int32) (y1 : zAV) (y2 : zAV) (y3 : zAV) (y8 : zAV) (y9 : zAV) (w155 : Int32) : zev cc_X11_tries G 0 krI (zE 151 (.aload_n 0) 1 :: zEf 152 (.getfield 7) 3 11 1 149 (2, 42, 0) :: zEk 155 (.iconst 5) 1 w155 :: es) σ [vR 11 0, y1, y2, y3, vI x4, vI x5, vI x6, vI x7, y8, y9] [] = zev cc_X11_tries G 0 krI es σ [vR 11 0, y1, y2, y3, vI x4, vI x5, vI x6, vI x7, y8, y9] [vI w155, vR 42 0] := rfl
theorem t_X11_tries_157 {G : Nat → zH → List zAV → List zAV → Option (zH × Int32)} (es : List zEnt) (σ : zH) (x4 : Int32) (x5 : Int32) (x6 : Int32) (x7 : Int32) (xs0 : Int32) (y1 : zAV) (y2 : zAV) (y3 : zAV) (y8 : zAV) (y9 : zAV) (w161 : Int32) : zev cc_X11_tries G 0 krI (zE 157 (.aload_n 0) 1 :: zEf 158 (.getfield 133) 3 11 51 199 (2, 80, 0) :: zEk 161 (.iconst 5) 1 w161 :: es) σ [vR 11 0, y1, y2, y3, vI x4, vI x5, vI x6, vI x7, y8, y9] [vI xs0] = zev cc_X11_tries G 0 krI es σ [vR 11 0, y1, y2, y3, vI x4, vI x5, vI x6, vI x7, y8, y9] [vI w161, vR 80 0, vI xs0] := rfl
theorem t_X11_tries_163 {G : Nat → zH → List zAV → List zAV → Option (zH × Int32)} (es : List zEnt) (σ : zH) (x4 : Int32) (x5 : Int32) (x6 : Int32) (x7 : Int32) (xs0 : Int32) (xs1 : Int32) (y1 : zAV) (y2 : zAV) (y3 : zAV) (y8 : zAV) (y9 : zAV) (w170 : Int32) : zev cc_X11_tries G 0 krI (zE 163 .isub 1 :: zE 164 (.istore 8) 2 :: zE 166 (.aload_n 0) 1 :: zEf 167 (.getfield 7) 3 11 1 149 (2, 42, 0) :: zEk 170 (.bipush 7) 2 w170 :: es) σ [vR 11 0, y1, y2, y3, vI x4, vI x5, vI x6, vI x7, y8, y9] [vI xs1, vI xs0] = zev cc_X11_tries G 0 krI es σ [vR 11 0, y1, y2, y3, vI x4, vI x5, vI x6, vI x7, vI (xs0 - xs1), y9] [vI w170, vR 42 0] := rfl
theorem t_X11_tries_173 {G : Nat → zH → List zAV → List zAV → Option (zH × Int32)} (es : List zEnt) (σ : zH) (x4 : Int32) (x5 : Int32) (x6 : Int32) (x7 : Int32) (x8 : Int32) (xs0 : Int32) (y1 : zAV) (y2 : zAV) (y3 : zAV) (y9 : zAV) (w177 : Int32) : zev cc_X11_tries G 0 krI (zE 173 (.aload_n 0) 1 :: zEf 174 (.getfield 133) 3 11 51 199 (2, 80, 0) :: zEk 177 (.bipush 7) 2 w177 :: es) σ [vR 11 0, y1, y2, y3, vI x4, vI x5, vI x6, vI x7, vI x8, y9] [vI xs0] = zev cc_X11_tries G 0 krI es σ [vR 11 0, y1, y2, y3, vI x4, vI x5, vI x6, vI x7, vI x8, y9] [vI w177, vR 80 0, vI xs0] := rfl
theorem t_X11_tries_180 {G : Nat → zH → List zAV → List zAV → Option (zH × Int32)} (es : List zEnt) (σ : zH) (x4 : Int32) (x5 : Int32) (x6 : Int32) (x7 : Int32) (x8 : Int32) (xs0 : Int32) (xs1 : Int32) (y1 : zAV) (y2 : zAV) (y3 : zAV) (y9 : zAV)  : zev cc_X11_tries G 0 krI (zE 180 .isub 1 :: zE 181 (.istore 9) 2 :: zE 183 (.aload_n 0) 1 :: es) σ [vR 11 0, y1, y2, y3, vI x4, vI x5, vI x6, vI x7, vI x8, y9] [vI xs1, vI xs0] = zev cc_X11_tries G 0 krI es σ [vR 11 0, y1, y2, y3, vI x4, vI x5, vI x6, vI x7, vI x8, vI (xs0 - xs1)] [vR 11 0] := rfl
theorem t_X11_tries_187 {G : Nat → zH → List zAV → List zAV → Option (zH × Int32)} (es : List zEnt) (σ : zH) (x4 : Int32) (x5 : Int32) (x6 : Int32) (x7 : Int32) (x8 : Int32) (x9 : Int32) (y0 : zAV) (y1 : zAV) (y2 : zAV) (y3 : zAV)  : zev cc_X11_tries G 0 krI (zE 187 (.iload 4) 2 :: es) σ [y0, y1, y2, y3, vI x4, vI x5, vI x6, vI x7, vI x8, vI x9] [] = zev cc_X11_tries G 0 krI es σ [y0, y1, y2, y3, vI x4, vI x5, vI x6, vI x7, vI x8, vI x9] [vI x4] := rfl
theorem t_X11_tries_220 {G : Nat → zH → List zAV → List zAV → Option (zH × Int32)} (es : List zEnt) (σ : zH) (x5 : Int32) (y0 : zAV) (y1 : zAV) (y2 : zAV) (y3 : zAV) (y4 : zAV) (y6 : zAV) (y7 : zAV) (y8 : zAV) (y9 : zAV)  : zev cc_X11_tries G 0 krI (zE 220 (.iload 5) 2 :: es) σ [y0, y1, y2, y3, y4, vI x5, y6, y7, y8, y9] [] = zev cc_X11_tries G 0 krI es σ [y0, y1, y2, y3, y4, vI x5, y6, y7, y8, y9] [vI x5] := rfl
theorem t_X11_tries_223 {G : Nat → zH → List zAV → List zAV → Option (zH × Int32)} (es : List zEnt) (σ : zH) (x8 : Int32) (y0 : zAV) (y1 : zAV) (y2 : zAV) (y3 : zAV) (y4 : zAV) (y5 : zAV) (y6 : zAV) (y7 : zAV) (y9 : zAV)  : zev cc_X11_tries G 0 krI (zE 223 (.iload 8) 2 :: es) σ [y0, y1, y2, y3, y4, y5, y6, y7, vI x8, y9] [] = zev cc_X11_tries G 0 krI es σ [y0, y1, y2, y3, y4, y5, y6, y7, vI x8, y9] [vI x8] := rfl
theorem t_X11_tries_226 {G : Nat → zH → List zAV → List zAV → Option (zH × Int32)} (es : List zEnt) (σ : zH) (x6 : Int32) (y0 : zAV) (y1 : zAV) (y2 : zAV) (y3 : zAV) (y4 : zAV) (y5 : zAV) (y7 : zAV) (y8 : zAV) (y9 : zAV)  : zev cc_X11_tries G 0 krI (zE 226 (.iload 6) 2 :: es) σ [y0, y1, y2, y3, y4, y5, vI x6, y7, y8, y9] [] = zev cc_X11_tries G 0 krI es σ [y0, y1, y2, y3, y4, y5, vI x6, y7, y8, y9] [vI x6] := rfl
theorem t_X11_tries_229 {G : Nat → zH → List zAV → List zAV → Option (zH × Int32)} (es : List zEnt) (σ : zH) (x7 : Int32) (y0 : zAV) (y1 : zAV) (y2 : zAV) (y3 : zAV) (y4 : zAV) (y5 : zAV) (y6 : zAV) (y8 : zAV) (y9 : zAV)  : zev cc_X11_tries G 0 krI (zE 229 (.iload 7) 2 :: es) σ [y0, y1, y2, y3, y4, y5, y6, vI x7, y8, y9] [] = zev cc_X11_tries G 0 krI es σ [y0, y1, y2, y3, y4, y5, y6, vI x7, y8, y9] [vI x7] := rfl
theorem t_X11_tries_232 {G : Nat → zH → List zAV → List zAV → Option (zH × Int32)} (es : List zEnt) (σ : zH) (x9 : Int32) (y0 : zAV) (y1 : zAV) (y2 : zAV) (y3 : zAV) (y4 : zAV) (y5 : zAV) (y6 : zAV) (y7 : zAV) (y8 : zAV)  : zev cc_X11_tries G 0 krI (zE 232 (.iload 9) 2 :: es) σ [y0, y1, y2, y3, y4, y5, y6, y7, y8, vI x9] [] = zev cc_X11_tries G 0 krI es σ [y0, y1, y2, y3, y4, y5, y6, y7, y8, vI x9] [vI x9] := rfl
noncomputable def j_X11_tries_108 (c27 : zH → Int32 → Int32 → Int32 → Int32 → Int32 → Int32 → Int32 → Option (zH × Int32)) (σ : zH) (x1 : Int32) (x2 : Int32) (x3 : Int32) (x4 : Int32) (x5 : Int32) (x7 : Int32) (xs0 : Int32) : Option (zH × Int32) :=
  c27 σ x1 x2 x3 x4 x5 xs0 (x7 + (1 : Int32))
theorem e_X11_tries_108 (c27 : zH → Int32 → Int32 → Int32 → Int32 → Int32 → Int32 → Int32 → Option (zH × Int32)) (σ : zH) (x1 : Int32) (x2 : Int32) (x3 : Int32) (x4 : Int32) (x5 : Int32) (x7 : Int32) (xs0 : Int32) (y6 : zAV) (y8 : zAV) (y9 : zAV) : j_X11_tries_108 c27 σ x1 x2 x3 x4 x5 x7 xs0 = zin cc_X11_tries (fun t => if t = 27 then some (gl_X11_tries_27 c27) else none) 0 krI b_X11_tries 108 σ [vR 11 0, vI x1, vI x2, vI x3, vI x4, vI x5, y6, vI x7, y8, y9] [vI xs0] := by
  unfold j_X11_tries_108
  refine Eq.symm ((zin_b (es := q_X11_tries_108) rfl).trans ?_)
  refine (t_X11_tries_108 _ _ _ _ _ _ _ _ _ _ _ _ _).trans ?_
  refine x_goto.trans ?_
  exact (zrun_c rfl).trans (glr_X11_tries_27 _ _ _ _ _ _ _ _ _ _ _)
theorem s_X11_tries_108 {X : zX} (hX : zHX X) {c27 : zH → Int32 → Int32 → Int32 → Int32 → Int32 → Int32 → Int32 → Option (zH × Int32)} (h27 : ∀ σ L st r, gl_X11_tries_27 c27 σ L st = some r → zGW X 189 krI 27 σ L st r) : ∀ σ L st r, gl_X11_tries_108 (j_X11_tries_108 c27) σ L st = some r → zGW X 189 krI 108 σ L st r := by
  intro σ L st r h
  unfold gl_X11_tries_108 at h
  split at h
  · exact zin_ok (hy_X11_tries hX) bk_X11_tries (fun t f hf => by
    by_cases e27 : t = 27
    · rw [if_pos e27] at hf; subst e27; cases hf; exact h27
    rw [if_neg e27] at hf
    cases hf) ((e_X11_tries_108 _ _ _ _ _ _ _ _ _ _ _ _).symm.trans h)
  · cases h
noncomputable def j_X11_tries_106 (c27 : zH → Int32 → Int32 → Int32 → Int32 → Int32 → Int32 → Int32 → Option (zH × Int32)) (σ : zH) (x1 : Int32) (x2 : Int32) (x3 : Int32) (x4 : Int32) (x5 : Int32) (x6 : Int32) (x7 : Int32) : Option (zH × Int32) :=
  (j_X11_tries_108 c27) σ x1 x2 x3 x4 x5 x7 x6
theorem e_X11_tries_106 (c27 : zH → Int32 → Int32 → Int32 → Int32 → Int32 → Int32 → Int32 → Option (zH × Int32)) (σ : zH) (x1 : Int32) (x2 : Int32) (x3 : Int32) (x4 : Int32) (x5 : Int32) (x6 : Int32) (x7 : Int32) (y8 : zAV) (y9 : zAV) : j_X11_tries_106 c27 σ x1 x2 x3 x4 x5 x6 x7 = zin cc_X11_tries (fun t => if t = 108 then some (gl_X11_tries_108 (j_X11_tries_108 c27)) else none) 0 krI b_X11_tries 106 σ [vR 11 0, vI x1, vI x2, vI x3, vI x4, vI x5, vI x6, vI x7, y8, y9] [] := by
  unfold j_X11_tries_106
  refine Eq.symm ((zin_b (es := q_X11_tries_106) rfl).trans ?_)
  refine (t_X11_tries_106 _ _ _ _ _ _ _ _ _ _ _).trans ?_
  refine x_cut.trans ?_
  exact (zrun_c rfl).trans (glr_X11_tries_108 _ _ _ _ _ _ _ _ _ _ _ _)
theorem s_X11_tries_106 {X : zX} (hX : zHX X) {c27 : zH → Int32 → Int32 → Int32 → Int32 → Int32 → Int32 → Int32 → Option (zH × Int32)} (h27 : ∀ σ L st r, gl_X11_tries_27 c27 σ L st = some r → zGW X 189 krI 27 σ L st r) : ∀ σ L st r, gl_X11_tries_106 (j_X11_tries_106 c27) σ L st = some r → zGW X 189 krI 106 σ L st r := by
  intro σ L st r h
  unfold gl_X11_tries_106 at h
  split at h
  · exact zin_ok (hy_X11_tries hX) bk_X11_tries (fun t f hf => by
    by_cases e108 : t = 108
    · rw [if_pos e108] at hf; subst e108; cases hf; exact (s_X11_tries_108 hX h27)
    rw [if_neg e108] at hf
    cases hf) ((e_X11_tries_106 _ _ _ _ _ _ _ _ _ _ _).symm.trans h)
  · cases h
noncomputable def j_X11_tries_81 (c27 : zH → Int32 → Int32 → Int32 → Int32 → Int32 → Int32 → Int32 → Option (zH × Int32)) (σ : zH) (x1 : Int32) (x2 : Int32) (x3 : Int32) (x4 : Int32) (x6 : Int32) (x7 : Int32) (x8 : Int32) (xs0 : Int32) : Option (zH × Int32) :=
  if x6 = (-2 : Int32) then
    if x8 < (σ.1 42 0 5) then
      (j_X11_tries_108 c27) σ x1 x2 x3 x4 xs0 x7 x7
    else
      (j_X11_tries_106 c27) σ x1 x2 x3 x4 xs0 x6 x7
  else
    (j_X11_tries_106 c27) σ x1 x2 x3 x4 xs0 x6 x7
theorem e_X11_tries_81 (c27 : zH → Int32 → Int32 → Int32 → Int32 → Int32 → Int32 → Int32 → Option (zH × Int32)) (σ : zH) (x1 : Int32) (x2 : Int32) (x3 : Int32) (x4 : Int32) (x6 : Int32) (x7 : Int32) (x8 : Int32) (xs0 : Int32) (y5 : zAV) (y9 : zAV) : j_X11_tries_81 c27 σ x1 x2 x3 x4 x6 x7 x8 xs0 = zin cc_X11_tries (fun t => if t = 106 then some (gl_X11_tries_106 (j_X11_tries_106 c27)) else if t = 108 then some (gl_X11_tries_108 (j_X11_tries_108 c27)) else none) 0 krI b_X11_tries 81 σ [vR 11 0, vI x1, vI x2, vI x3, vI x4, y5, vI x6, vI x7, vI x8, y9] [vI xs0] := by
  unfold j_X11_tries_81
  refine Eq.symm ((zin_b (es := q_X11_tries_81) rfl).trans ?_)
  refine (t_X11_tries_81 _ _ _ _ _ _ _ _ _ _ _ _ _).trans ?_
  refine x_icmp.trans (pif_ne ?_ ?_)
  · exact (zrun_c rfl).trans (glr_X11_tries_106 _ _ _ _ _ _ _ _ _ _ _)
  · refine (t_X11_tries_90 _ _ _ _ _ _ _ _ _ _ _ _).trans ?_
    refine ((x_iald (N := 11) rfl rfl).trans (ix_l 5 (by decide +kernel))).trans ?_
    refine (t_X11_tries_96 _ _ _ _ _ _ _ _ _ _ _ _).trans ?_
    refine x_icmp.trans (pif_le ?_ ?_)
    · exact (zrun_c rfl).trans (glr_X11_tries_106 _ _ _ _ _ _ _ _ _ _ _)
    · refine (t_X11_tries_101 _ _ _ _ _ _ _ _ _ _ _).trans ?_
      refine x_goto.trans ?_
      exact (zrun_c rfl).trans (glr_X11_tries_108 _ _ _ _ _ _ _ _ _ _ _ _)
theorem s_X11_tries_81 {X : zX} (hX : zHX X) {c27 : zH → Int32 → Int32 → Int32 → Int32 → Int32 → Int32 → Int32 → Option (zH × Int32)} (h27 : ∀ σ L st r, gl_X11_tries_27 c27 σ L st = some r → zGW X 189 krI 27 σ L st r) : ∀ σ L st r, gl_X11_tries_81 (j_X11_tries_81 c27) σ L st = some r → zGW X 189 krI 81 σ L st r := by
  intro σ L st r h
  unfold gl_X11_tries_81 at h
  split at h
  · exact zin_ok (hy_X11_tries hX) bk_X11_tries (fun t f hf => by
    by_cases e106 : t = 106
    · rw [if_pos e106] at hf; subst e106; cases hf; exact (s_X11_tries_106 hX h27)
    rw [if_neg e106] at hf
    by_cases e108 : t = 108
    · rw [if_pos e108] at hf; subst e108; cases hf; exact (s_X11_tries_108 hX h27)
    rw [if_neg e108] at hf
    cases hf) ((e_X11_tries_81 _ _ _ _ _ _ _ _ _ _ _ _).symm.trans h)
  · cases h
noncomputable def j_X11_tries_44 (c27 : zH → Int32 → Int32 → Int32 → Int32 → Int32 → Int32 → Int32 → Option (zH × Int32)) (σ : zH) (x1 : Int32) (x2 : Int32) (x3 : Int32) (x4 : Int32) (x5 : Int32) (x6 : Int32) (x7 : Int32) : Option (zH × Int32) :=
  (d_X11_quarter σ x1).bind fun σ1 =>
  (d_X11_upSet σ1).bind fun p2 =>
  (d_X11_menOf p2.1 p2.2).bind fun p3 =>
  if p3.2 < x5 then
    (j_X11_tries_81 c27) p3.1 x1 x2 x3 x4 x6 x7 (σ.1 42 0 5) p3.2
  else
    (j_X11_tries_81 c27) p3.1 x1 x2 x3 x4 x6 x7 (σ.1 42 0 5) x5
theorem e_X11_tries_44 (c27 : zH → Int32 → Int32 → Int32 → Int32 → Int32 → Int32 → Int32 → Option (zH × Int32)) (σ : zH) (x1 : Int32) (x2 : Int32) (x3 : Int32) (x4 : Int32) (x5 : Int32) (x6 : Int32) (x7 : Int32) (y8 : zAV) (y9 : zAV) : j_X11_tries_44 c27 σ x1 x2 x3 x4 x5 x6 x7 = zin cc_X11_tries (fun t => if t = 81 then some (gl_X11_tries_81 (j_X11_tries_81 c27)) else none) 0 krI b_X11_tries 44 σ [vR 11 0, vI x1, vI x2, vI x3, vI x4, vI x5, vI x6, vI x7, y8, y9] [] := by
  unfold j_X11_tries_44
  refine Eq.symm ((zin_b (es := q_X11_tries_44) rfl).trans ?_)
  refine (t_X11_tries_44 _ _ _ _ _ _ _ _ _ _ _ _).trans ?_
  refine ((x_iald (N := 11) rfl rfl).trans (ix_l 5 (by decide +kernel))).trans ?_
  refine (t_X11_tries_50 _ _ _ _ _ _ _ _ _ _ _ _).trans ?_
  refine (x_callV rfl rfl rfl rfl).trans ((cl_X11_tries_X11_quarter _ _ _).trans ((gr_X11_quarter _ _ _).trans (pbd fun _ => ?_)))
  refine (t_X11_tries_57 _ _ _ _ _ _ _ _ _ _ _).trans ?_
  refine (x_callV rfl rfl rfl rfl).trans ((cl_X11_tries_X11_upSet _ _ _).trans ((gr_X11_upSet _ _).trans (pbd fun _ => ?_)))
  refine (x_callV rfl rfl rfl rfl).trans ((cl_X11_tries_X11_menOf _ _ _).trans ((gr_X11_menOf _ _ _).trans (pbd fun _ => ?_)))
  refine (t_X11_tries_65 _ _ _ _ _ _ _ _ _ _ _ _).trans ?_
  refine x_icmp.trans (pif_ge ?_ ?_)
  · refine (zrun_b (es := q_X11_tries_79) rfl rfl).trans ?_
    refine (t_X11_tries_79 _ _ _ _ _ _ _ _ _ _ _).trans ?_
    refine x_cut.trans ?_
    exact (zrun_c rfl).trans (glr_X11_tries_81 _ _ _ _ _ _ _ _ _ _ _ _)
  · refine (t_X11_tries_74 _ _ _ _ _ _ _ _ _ _ _).trans ?_
    refine x_goto.trans ?_
    exact (zrun_c rfl).trans (glr_X11_tries_81 _ _ _ _ _ _ _ _ _ _ _ _)
theorem s_X11_tries_44 {X : zX} (hX : zHX X) {c27 : zH → Int32 → Int32 → Int32 → Int32 → Int32 → Int32 → Int32 → Option (zH × Int32)} (h27 : ∀ σ L st r, gl_X11_tries_27 c27 σ L st = some r → zGW X 189 krI 27 σ L st r) : ∀ σ L st r, gl_X11_tries_44 (j_X11_tries_44 c27) σ L st = some r → zGW X 189 krI 44 σ L st r := by
  intro σ L st r h
  unfold gl_X11_tries_44 at h
  split at h
  · exact zin_ok (hy_X11_tries hX) bk_X11_tries (fun t f hf => by
    by_cases e81 : t = 81
    · rw [if_pos e81] at hf; subst e81; cases hf; exact (s_X11_tries_81 hX h27)
    rw [if_neg e81] at hf
    cases hf) ((e_X11_tries_44 _ _ _ _ _ _ _ _ _ _ _).symm.trans h)
  · cases h
noncomputable def k_X11_tries_27 (c116 : zH → Int32 → Int32 → Int32 → Option (zH × Int32)) : Nat → zH → Int32 → Int32 → Int32 → Int32 → Int32 → Int32 → Int32 → Option (zH × Int32)
  | 0, _, _, _, _, _, _, _, _ => none
  | n + 1, σ, x1, x2, x3, x4, x5, x6, x7 =>
    if x7 < x3 then
      if x7 = x2 then
        (d_X11_drum σ).bind fun p1 =>
        (j_X11_tries_44 (k_X11_tries_27 c116 n)) p1.1 x1 x2 x3 x4 x5 x6 x7
      else
        (j_X11_tries_44 (k_X11_tries_27 c116 n)) σ x1 x2 x3 x4 x5 x6 x7
    else
      c116 σ x4 x5 x6
theorem e_X11_tries_27 (c116 : zH → Int32 → Int32 → Int32 → Option (zH × Int32)) (n : Nat) (σ : zH) (x1 : Int32) (x2 : Int32) (x3 : Int32) (x4 : Int32) (x5 : Int32) (x6 : Int32) (x7 : Int32) (y8 : zAV) (y9 : zAV) : k_X11_tries_27 c116 (n + 1) σ x1 x2 x3 x4 x5 x6 x7 = zin cc_X11_tries (fun t => if t = 44 then some (gl_X11_tries_44 (j_X11_tries_44 (k_X11_tries_27 c116 n))) else if t = 116 then some (gl_X11_tries_116 c116) else none) 0 krI b_X11_tries 27 σ [vR 11 0, vI x1, vI x2, vI x3, vI x4, vI x5, vI x6, vI x7, y8, y9] [] := by
  rw [k_X11_tries_27]
  refine Eq.symm ((zin_b (es := q_X11_tries_27) rfl).trans ?_)
  refine (t_X11_tries_27 _ _ _ _ _ _ _ _ _ _ _).trans ?_
  refine x_icmp.trans (pif_ge ?_ ?_)
  · exact (zrun_c rfl).trans (glr_X11_tries_116 _ _ _ _ _ _ _ _ _ _ _)
  · refine (t_X11_tries_33 _ _ _ _ _ _ _ _ _ _ _).trans ?_
    refine x_icmp.trans (pif_ne ?_ ?_)
    · exact (zrun_c rfl).trans (glr_X11_tries_44 _ _ _ _ _ _ _ _ _ _ _)
    · refine (t_X11_tries_39 _ _ _ _ _ _ _ _ _ _ _).trans ?_
      refine (x_callV rfl rfl rfl rfl).trans ((cl_X11_tries_X11_drum _ _ _).trans ((gr_X11_drum _ _).trans (pbd fun _ => ?_)))
      refine (t_X11_tries_43 _ _ _ _ _ _ _ _ _ _ _ _).trans ?_
      refine x_cut.trans ?_
      exact (zrun_c rfl).trans (glr_X11_tries_44 _ _ _ _ _ _ _ _ _ _ _)
theorem s_X11_tries_27 {X : zX} (hX : zHX X) {c116 : zH → Int32 → Int32 → Int32 → Option (zH × Int32)} (h116 : ∀ σ L st r, gl_X11_tries_116 c116 σ L st = some r → zGW X 189 krI 116 σ L st r) : ∀ n σ L st r, gl_X11_tries_27 (k_X11_tries_27 c116 n) σ L st = some r → zGW X 189 krI 27 σ L st r := by
  intro n
  induction n with
  | zero =>
    intro σ L st r h
    unfold gl_X11_tries_27 at h
    split at h <;> cases h
  | succ n ih =>
    intro σ L st r h
    unfold gl_X11_tries_27 at h
    split at h
    · exact zin_ok (hy_X11_tries hX) bk_X11_tries (fun t f hf => by
      by_cases e44 : t = 44
      · rw [if_pos e44] at hf; subst e44; cases hf; exact (s_X11_tries_44 hX ih)
      rw [if_neg e44] at hf
      by_cases e116 : t = 116
      · rw [if_pos e116] at hf; subst e116; cases hf; exact h116
      rw [if_neg e116] at hf
      cases hf) ((e_X11_tries_27 _ _ _ _ _ _ _ _ _ _ _ _).symm.trans h)
    · cases h
noncomputable def k_X11_tries_122 (c151 : zH → Int32 → Int32 → Int32 → Int32 → Option (zH × Int32)) : Nat → zH → Int32 → Int32 → Int32 → Int32 → Int32 → Option (zH × Int32)
  | 0, _, _, _, _, _, _ => none
  | n + 1, σ, x4, x5, x6, x7, x8 =>
    if x8 < (σ.1 42 0 0) then
      ix x8 12 fun j1 =>
      (k_X11_tries_122 c151 n) σ x4 x5 x6 (x7 + (σ.1 63 0 j1)) (x8 + (1 : Int32))
    else
      c151 σ x4 x5 x6 x7
theorem e_X11_tries_122 (c151 : zH → Int32 → Int32 → Int32 → Int32 → Option (zH × Int32)) (n : Nat) (σ : zH) (x4 : Int32) (x5 : Int32) (x6 : Int32) (x7 : Int32) (x8 : Int32) (y1 : zAV) (y2 : zAV) (y3 : zAV) (y9 : zAV) : k_X11_tries_122 c151 (n + 1) σ x4 x5 x6 x7 x8 = zin cc_X11_tries (fun t => if t = 122 then some (gl_X11_tries_122 (k_X11_tries_122 c151 n)) else if t = 151 then some (gl_X11_tries_151 c151) else none) 0 krI b_X11_tries 122 σ [vR 11 0, y1, y2, y3, vI x4, vI x5, vI x6, vI x7, vI x8, y9] [] := by
  rw [k_X11_tries_122]
  refine Eq.symm ((zin_b (es := q_X11_tries_122) rfl).trans ?_)
  refine (t_X11_tries_122 _ _ _ _ _ _ _ _ _ _ _ _).trans ?_
  refine ((x_iald (N := 11) rfl rfl).trans (ix_l 0 (by decide +kernel))).trans ?_
  refine x_icmp.trans (pif_ge ?_ ?_)
  · exact (zrun_c rfl).trans (glr_X11_tries_151 _ _ _ _ _ _ _ _ _ _ _)
  · refine (t_X11_tries_133 _ _ _ _ _ _ _ _ _ _ _).trans ?_
    refine (x_iald (N := 12) rfl rfl).trans (pix fun _ => ?_)
    refine (t_X11_tries_142 _ _ _ _ _ _ _ _ _ _ _ _ _ _).trans ?_
    refine x_goto.trans ?_
    exact (zrun_c rfl).trans (glr_X11_tries_122 _ _ _ _ _ _ _ _ _ _ _)
theorem s_X11_tries_122 {X : zX} (hX : zHX X) {c151 : zH → Int32 → Int32 → Int32 → Int32 → Option (zH × Int32)} (h151 : ∀ σ L st r, gl_X11_tries_151 c151 σ L st = some r → zGW X 189 krI 151 σ L st r) : ∀ n σ L st r, gl_X11_tries_122 (k_X11_tries_122 c151 n) σ L st = some r → zGW X 189 krI 122 σ L st r := by
  intro n
  induction n with
  | zero =>
    intro σ L st r h
    unfold gl_X11_tries_122 at h
    split at h <;> cases h
  | succ n ih =>
    intro σ L st r h
    unfold gl_X11_tries_122 at h
    split at h
    · exact zin_ok (hy_X11_tries hX) bk_X11_tries (fun t f hf => by
      by_cases e122 : t = 122
      · rw [if_pos e122] at hf; subst e122; cases hf; exact ih
      rw [if_neg e122] at hf
      by_cases e151 : t = 151
      · rw [if_pos e151] at hf; subst e151; cases hf; exact h151
      rw [if_neg e151] at hf
      cases hf) ((e_X11_tries_122 _ _ _ _ _ _ _ _ _ _ _ _).symm.trans h)
    · cases h
noncomputable def j_X11_tries_151  (σ : zH) (x4 : Int32) (x5 : Int32) (x6 : Int32) (x7 : Int32) : Option (zH × Int32) :=
  (d_X11_laysBack σ).bind fun σ1 =>
  if x4 = (0 : Int32) then
    some (σ1, x5)
  else if x4 = (1 : Int32) then
    some (σ1, ((σ.1 42 0 5) - (σ.1 80 0 5)))
  else if x4 = (2 : Int32) then
    some (σ1, x6)
  else if x4 = (3 : Int32) then
    some (σ1, x7)
  else 
    some (σ1, ((σ.1 42 0 7) - (σ.1 80 0 7)))
theorem e_X11_tries_151  (σ : zH) (x4 : Int32) (x5 : Int32) (x6 : Int32) (x7 : Int32) (y1 : zAV) (y2 : zAV) (y3 : zAV) (y8 : zAV) (y9 : zAV) : j_X11_tries_151 σ x4 x5 x6 x7 = zin cc_X11_tries (fun t => none) 0 krI b_X11_tries 151 σ [vR 11 0, y1, y2, y3, vI x4, vI x5, vI x6, vI x7, y8, y9] [] := by
  unfold j_X11_tries_151
  refine Eq.symm ((zin_b (es := q_X11_tries_151) rfl).trans ?_)
  refine (t_X11_tries_151 _ _ _ _ _ _ _ _ _ _ _ _).trans ?_
  refine ((x_iald (N := 11) rfl rfl).trans (ix_l 5 (by decide +kernel))).trans ?_
  refine (t_X11_tries_157 _ _ _ _ _ _ _ _ _ _ _ _ _).trans ?_
  refine ((x_iald (N := 11) rfl rfl).trans (ix_l 5 (by decide +kernel))).trans ?_
  refine (t_X11_tries_163 _ _ _ _ _ _ _ _ _ _ _ _ _ _).trans ?_
  refine ((x_iald (N := 11) rfl rfl).trans (ix_l 7 (by decide +kernel))).trans ?_
  refine (t_X11_tries_173 _ _ _ _ _ _ _ _ _ _ _ _ _).trans ?_
  refine ((x_iald (N := 11) rfl rfl).trans (ix_l 7 (by decide +kernel))).trans ?_
  refine (t_X11_tries_180 _ _ _ _ _ _ _ _ _ _ _ _ _).trans ?_
  refine (x_callV rfl rfl rfl rfl).trans ((cl_X11_tries_X11_laysBack _ _ _).trans ((gr_X11_laysBack _ _).trans (pbd fun _ => ?_)))
  refine (t_X11_tries_187 _ _ _ _ _ _ _ _ _ _ _ _).trans ?_
  refine x_tsw.trans ?_
  refine zsw_c ?_ ?_
  · refine (zrun_b (es := q_X11_tries_220) rfl rfl).trans ?_
    refine (t_X11_tries_220 _ _ _ _ _ _ _ _ _ _ _ _).trans ?_
    exact x_iret
  refine zsw_c ?_ ?_
  · refine (zrun_b (es := q_X11_tries_223) rfl rfl).trans ?_
    refine (t_X11_tries_223 _ _ _ _ _ _ _ _ _ _ _ _).trans ?_
    exact x_iret
  refine zsw_c ?_ ?_
  · refine (zrun_b (es := q_X11_tries_226) rfl rfl).trans ?_
    refine (t_X11_tries_226 _ _ _ _ _ _ _ _ _ _ _ _).trans ?_
    exact x_iret
  refine zsw_c ?_ ?_
  · refine (zrun_b (es := q_X11_tries_229) rfl rfl).trans ?_
    refine (t_X11_tries_229 _ _ _ _ _ _ _ _ _ _ _ _).trans ?_
    exact x_iret
  refine zsw_n ?_
  refine (zrun_b (es := q_X11_tries_232) rfl rfl).trans ?_
  refine (t_X11_tries_232 _ _ _ _ _ _ _ _ _ _ _ _).trans ?_
  exact x_iret
theorem s_X11_tries_151 {X : zX} (hX : zHX X)   : ∀ σ L st r, gl_X11_tries_151 j_X11_tries_151 σ L st = some r → zGW X 189 krI 151 σ L st r := by
  intro σ L st r h
  unfold gl_X11_tries_151 at h
  split at h
  · exact zin_ok (hy_X11_tries hX) bk_X11_tries (fun t f hf => by
    cases hf) ((e_X11_tries_151 _ _ _ _ _ _ _ _ _ _).symm.trans h)
  · cases h
noncomputable def j_X11_tries_116  (σ : zH) (x4 : Int32) (x5 : Int32) (x6 : Int32) : Option (zH × Int32) :=
  (k_X11_tries_122 j_X11_tries_151 zN) σ x4 x5 x6 (0 : Int32) (0 : Int32)
theorem e_X11_tries_116  (σ : zH) (x4 : Int32) (x5 : Int32) (x6 : Int32) (y1 : zAV) (y2 : zAV) (y3 : zAV) (y7 : zAV) (y8 : zAV) (y9 : zAV) : j_X11_tries_116 σ x4 x5 x6 = zin cc_X11_tries (fun t => if t = 122 then some (gl_X11_tries_122 (k_X11_tries_122 j_X11_tries_151 zN)) else none) 0 krI b_X11_tries 116 σ [vR 11 0, y1, y2, y3, vI x4, vI x5, vI x6, y7, y8, y9] [] := by
  unfold j_X11_tries_116
  refine Eq.symm ((zin_b (es := q_X11_tries_116) rfl).trans ?_)
  refine (t_X11_tries_116 _ _ _ _ _ _ _ _ _ _ _ _ _).trans ?_
  refine x_cut.trans ?_
  exact (zrun_c rfl).trans (glr_X11_tries_122 _ _ _ _ _ _ _ _ _ _ _)
theorem s_X11_tries_116 {X : zX} (hX : zHX X)   : ∀ σ L st r, gl_X11_tries_116 j_X11_tries_116 σ L st = some r → zGW X 189 krI 116 σ L st r := by
  intro σ L st r h
  unfold gl_X11_tries_116 at h
  split at h
  · exact zin_ok (hy_X11_tries hX) bk_X11_tries (fun t f hf => by
    by_cases e122 : t = 122
    · rw [if_pos e122] at hf; subst e122; cases hf; exact ((fun σ L st r h => s_X11_tries_122 hX (s_X11_tries_151 hX) zN σ L st r h))
    rw [if_neg e122] at hf
    cases hf) ((e_X11_tries_116 _ _ _ _ _ _ _ _ _ _).symm.trans h)
  · cases h
noncomputable def d_X11_tries (σ : zH) (xa1 : Int32) (xa2 : Int32) (xa3 : Int32) (xa4 : Int32) : Option (zH × Int32) :=
  (d_X11_keeps σ).bind fun σ1 =>
  (d_X11_menOf σ1 (((1 : Int32) <<< ((σ1.1 42 0 0) &&& 31)) - (1 : Int32))).bind fun p2 =>
  (k_X11_tries_27 j_X11_tries_116 zN) p2.1 xa1 xa2 xa3 xa4 p2.2 (-2 : Int32) (0 : Int32)
theorem e_X11_tries (σ : zH) (xa1 : Int32) (xa2 : Int32) (xa3 : Int32) (xa4 : Int32) : d_X11_tries σ xa1 xa2 xa3 xa4 = zin cc_X11_tries (fun t => if t = 27 then some (gl_X11_tries_27 (k_X11_tries_27 j_X11_tries_116 zN)) else none) 0 krI b_X11_tries 0 σ [vR 11 0, vI xa1, vI xa2, vI xa3, vI xa4, vU, vU, vU, vU, vU] [] := by
  unfold d_X11_tries
  refine Eq.symm ((zin_b (es := q_X11_tries_0) rfl).trans ?_)
  refine (t_X11_tries_0 _ _ _ _ _ _ _ _ _ _ _).trans ?_
  refine (x_callV rfl rfl rfl rfl).trans ((cl_X11_tries_X11_keeps _ _ _).trans ((gr_X11_keeps _ _).trans (pbd fun _ => ?_)))
  refine (t_X11_tries_4 _ _ _ _ _ _ _ _ _ _ _ _ _).trans ?_
  refine ((x_iald (N := 11) rfl rfl).trans (ix_l 0 (by decide +kernel))).trans ?_
  refine (t_X11_tries_12 _ _ _ _ _ _ _ _ _ _ _ _ _ _).trans ?_
  refine (x_callV rfl rfl rfl rfl).trans ((cl_X11_tries_X11_menOf _ _ _).trans ((gr_X11_menOf _ _ _).trans (pbd fun _ => ?_)))
  refine (t_X11_tries_18 _ _ _ _ _ _ _ _ _ _ _ _ _ _).trans ?_
  refine x_cut.trans ?_
  exact (zrun_c rfl).trans (glr_X11_tries_27 _ _ _ _ _ _ _ _ _ _ _)
noncomputable def g_X11_tries {ρ : Type} (σ : zH) (av : List zAV) (q : zH → zAV → Option ρ) : Option ρ := match av with
  | [.inr (.inr (.inl (11, 0))), .inl xa1, .inl xa2, .inl xa3, .inl xa4] => (d_X11_tries σ xa1 xa2 xa3 xa4).bind fun p => q p.1 (vI p.2)
  | _ => none
theorem gr_X11_tries {ρ : Type} (σ : zH) (xa1 : Int32) (xa2 : Int32) (xa3 : Int32) (xa4 : Int32) (q : zH → zAV → Option ρ) : g_X11_tries σ [vR 11 0, vI xa1, vI xa2, vI xa3, vI xa4] q = (d_X11_tries σ xa1 xa2 xa3 xa4).bind fun p => q p.1 (vI p.2) := rfl
theorem c_X11_tries {ρ : Type} {X : zX} (hX : zHX X) {σ : zH} {av : List zAV} {q : zH → zAV → Option ρ} {r : ρ} (h : g_X11_tries σ av q = some r) (hv : ∀ a ∈ av, zval X a) : zcon X 189 σ av q r := by
  unfold g_X11_tries at h
  split at h
  · exact zcon_I (n := 189) (ml := 10) (rc := 0) (st := 0) (kd := 11) (np := 4) (by decide +kernel) (by decide) ⟨_, _, rfl, rfl⟩ (Nat.le_of_ble_eq_true rfl) hv h (fun y h1 => (zin_ok (hy_X11_tries hX) bk_X11_tries (fun t f hf => by
      by_cases e27 : t = 27
      · rw [if_pos e27] at hf; subst e27; cases hf; exact ((fun σ L st r h => s_X11_tries_27 hX (s_X11_tries_116 hX) zN σ L st r h))
      rw [if_neg e27] at hf
      cases hf) ((e_X11_tries _ _ _ _ _).symm.trans h1)))
  · cases h
/-! SleepWavesModel.ahead(III)I -/
def q_X11_ahead_33 : List zEnt := zEa 33 (.goto 11) 3 44 :: []
def q_X11_ahead_32 : List zEnt := zEk 32 (.iconst (-1)) 1 (-1) :: q_X11_ahead_33
def q_X11_ahead_29 : List zEnt := zEa 29 (.ifCond .ne 7) 3 36 :: q_X11_ahead_32
def q_X11_ahead_26 : List zEnt := zEc 26 (.invokestatic 173) 3 125 3 129 0 :: q_X11_ahead_29
def q_X11_ahead_20 : List zEnt := zE 20 (.iload_n 3) 1 :: zE 21 .i2l 1 :: (22, (.lconst 0), 1, (0, 0, 0, 0), (0, 0, 0), 0, 0, []) :: (23, (.ldc2_w 442), 3, (0, 0, 1604, 0), (0, 0, 0), 0, 4, []) :: q_X11_ahead_26
def q_X11_ahead_17 : List zEnt := zEa 17 (.ifCond .eq 15) 3 32 :: q_X11_ahead_20
def q_X11_ahead_14 : List zEnt := zEc 14 (.invokestatic 173) 3 125 3 129 0 :: q_X11_ahead_17
def q_X11_ahead_8 : List zEnt := zE 8 (.iload_n 2) 1 :: zE 9 .i2l 1 :: (10, (.lconst 0), 1, (0, 0, 0, 0), (0, 0, 0), 0, 0, []) :: (11, (.ldc2_w 440), 3, (0, 0, 1603, 0), (0, 0, 0), 0, 192, []) :: q_X11_ahead_14
def q_X11_ahead_5 : List zEnt := zEa 5 (.ifCond .eq 27) 3 32 :: q_X11_ahead_8
def q_X11_ahead_2 : List zEnt := zEc 2 (.invokevirtual 418) 3 164 2 145 0 :: q_X11_ahead_5
def q_X11_ahead_0 : List zEnt := zE 0 (.aload_n 0) 1 :: zE 1 (.iload_n 1) 1 :: q_X11_ahead_2
def q_X11_ahead_44 : List zEnt := zE 44 .ireturn 1 :: []
def q_X11_ahead_41 : List zEnt := zEc 41 (.invokevirtual 444) 3 189 5 168 0 :: q_X11_ahead_44
def q_X11_ahead_36 : List zEnt := zE 36 (.aload_n 0) 1 :: zE 37 (.iload_n 1) 1 :: zEk 38 (.iconst (-1)) 1 (-1) :: zE 39 (.iload_n 2) 1 :: zE 40 (.iload_n 3) 1 :: q_X11_ahead_41
def b_X11_ahead : List (Nat × List zEnt) := [(0, q_X11_ahead_0), (32, q_X11_ahead_32), (36, q_X11_ahead_36), (44, q_X11_ahead_44)]
theorem bk_X11_ahead : zchB 190 b_X11_ahead = true := by decide +kernel
noncomputable def cc_X11_ahead {ρ : Type} : Nat → zH → List zAV → (zH → zAV → Option ρ) → Option ρ := fun n σ av q => if n = 164 then g_X11_isLaw σ av q else if n = 125 then g_X11_in σ av q else if n = 189 then g_X11_tries σ av q else none
theorem cs_X11_ahead {ρ : Type} {X : zX} (hX : zHX X) : zCS X (cc_X11_ahead (ρ := ρ)) := by
  intro n σ av q r h hv
  unfold cc_X11_ahead at h
  by_cases e_X11_isLaw : n = 164
  · rw [if_pos e_X11_isLaw] at h
    subst e_X11_isLaw
    exact c_X11_isLaw hX h hv
  rw [if_neg e_X11_isLaw] at h
  by_cases e_X11_in : n = 125
  · rw [if_pos e_X11_in] at h
    subst e_X11_in
    exact c_X11_in hX h hv
  rw [if_neg e_X11_in] at h
  by_cases e_X11_tries : n = 189
  · rw [if_pos e_X11_tries] at h
    subst e_X11_tries
    exact c_X11_tries hX h hv
  rw [if_neg e_X11_tries] at h
  cases h
theorem cl_X11_ahead_X11_isLaw {ρ : Type} (σ : zH) (av : List zAV) (q : zH → zAV → Option ρ) : cc_X11_ahead 164 σ av q = g_X11_isLaw σ av q := rfl
theorem cl_X11_ahead_X11_in {ρ : Type} (σ : zH) (av : List zAV) (q : zH → zAV → Option ρ) : cc_X11_ahead 125 σ av q = g_X11_in σ av q := rfl
theorem cl_X11_ahead_X11_tries {ρ : Type} (σ : zH) (av : List zAV) (q : zH → zAV → Option ρ) : cc_X11_ahead 189 σ av q = g_X11_tries σ av q := rfl
theorem hy_X11_ahead {ρ : Type} {X : zX} (hX : zHX X) : zHY X 190 (cc_X11_ahead (ρ := ρ)) := zHX.hY hX (cs_X11_ahead hX) (zmok_all 190 (by decide))
theorem t_X11_ahead_0 {G : Nat → zH → List zAV → List zAV → Option (zH × Int32)} (es : List zEnt) (σ : zH) (x1 : Int32) (x2 : Int32) (x3 : Int32)   : zev cc_X11_ahead G 0 krI (zE 0 (.aload_n 0) 1 :: zE 1 (.iload_n 1) 1 :: es) σ [vR 11 0, vI x1, vI x2, vI x3] [] = zev cc_X11_ahead G 0 krI es σ [vR 11 0, vI x1, vI x2, vI x3] [vI x1, vR 11 0] := rfl
theorem t_X11_ahead_8 {G : Nat → zH → List zAV → List zAV → Option (zH × Int32)} (es : List zEnt) (σ : zH) (x1 : Int32) (x2 : Int32) (x3 : Int32)  (w10 : Int64) (w11 : Int64) : zev cc_X11_ahead G 0 krI (zE 8 (.iload_n 2) 1 :: zE 9 .i2l 1 :: (10, (.lconst 0), 1, (0, 0, 0, 0), (0, 0, 0), 0, w10, []) :: (11, (.ldc2_w 440), 3, (0, 0, 1603, 0), (0, 0, 0), 0, w11, []) :: es) σ [vR 11 0, vI x1, vI x2, vI x3] [] = zev cc_X11_ahead G 0 krI es σ [vR 11 0, vI x1, vI x2, vI x3] [vL w11, vL w10, vL x2.toInt64] := rfl
theorem t_X11_ahead_20 {G : Nat → zH → List zAV → List zAV → Option (zH × Int32)} (es : List zEnt) (σ : zH) (x1 : Int32) (x2 : Int32) (x3 : Int32)  (w22 : Int64) (w23 : Int64) : zev cc_X11_ahead G 0 krI (zE 20 (.iload_n 3) 1 :: zE 21 .i2l 1 :: (22, (.lconst 0), 1, (0, 0, 0, 0), (0, 0, 0), 0, w22, []) :: (23, (.ldc2_w 442), 3, (0, 0, 1604, 0), (0, 0, 0), 0, w23, []) :: es) σ [vR 11 0, vI x1, vI x2, vI x3] [] = zev cc_X11_ahead G 0 krI es σ [vR 11 0, vI x1, vI x2, vI x3] [vL w23, vL w22, vL x3.toInt64] := rfl
theorem t_X11_ahead_32 {G : Nat → zH → List zAV → List zAV → Option (zH × Int32)} (es : List zEnt) (σ : zH)  (y0 : zAV) (y1 : zAV) (y2 : zAV) (y3 : zAV) (w32 : Int32) : zev cc_X11_ahead G 0 krI (zEk 32 (.iconst (-1)) 1 w32 :: es) σ [y0, y1, y2, y3] [] = zev cc_X11_ahead G 0 krI es σ [y0, y1, y2, y3] [vI w32] := rfl
theorem t_X11_ahead_36 {G : Nat → zH → List zAV → List zAV → Option (zH × Int32)} (es : List zEnt) (σ : zH) (x1 : Int32) (x2 : Int32) (x3 : Int32)  (w38 : Int32) : zev cc_X11_ahead G 0 krI (zE 36 (.aload_n 0) 1 :: zE 37 (.iload_n 1) 1 :: zEk 38 (.iconst (-1)) 1 w38 :: zE 39 (.iload_n 2) 1 :: zE 40 (.iload_n 3) 1 :: es) σ [vR 11 0, vI x1, vI x2, vI x3] [] = zev cc_X11_ahead G 0 krI es σ [vR 11 0, vI x1, vI x2, vI x3] [vI x3, vI x2, vI w38, vI x1, vR 11 0] := rfl
noncomputable def d_X11_ahead (σ : zH) (xa1 : Int32) (xa2 : Int32) (xa3 : Int32) : Option (zH × Int32) :=
  (d_X11_isLaw σ xa1).bind fun p1 =>
  if p1.2 = 0 then
    some (p1.1, (-1 : Int32))
  else
    (d_X11_in p1.1 xa2.toInt64 (0 : Int64) (192 : Int64)).bind fun p2 =>
    if p2.2 = 0 then
      some (p2.1, (-1 : Int32))
    else
      (d_X11_in p2.1 xa3.toInt64 (0 : Int64) (4 : Int64)).bind fun p3 =>
      if p3.2 = 0 then
        some (p3.1, (-1 : Int32))
      else
        (d_X11_tries p3.1 xa1 (-1 : Int32) xa2 xa3).bind fun p4 =>
        some (p4.1, p4.2)
theorem e_X11_ahead (σ : zH) (xa1 : Int32) (xa2 : Int32) (xa3 : Int32) : d_X11_ahead σ xa1 xa2 xa3 = zin cc_X11_ahead (fun t => none) 0 krI b_X11_ahead 0 σ [vR 11 0, vI xa1, vI xa2, vI xa3] [] := by
  unfold d_X11_ahead
  refine Eq.symm ((zin_b (es := q_X11_ahead_0) rfl).trans ?_)
  refine (t_X11_ahead_0 _ _ _ _ _).trans ?_
  refine (x_callV rfl rfl rfl rfl).trans ((cl_X11_ahead_X11_isLaw _ _ _).trans ((gr_X11_isLaw _ _ _).trans (pbd fun _ => ?_)))
  refine x_if.trans (pif_eq ?_ ?_)
  · refine (zrun_b (es := q_X11_ahead_32) rfl rfl).trans ?_
    refine (t_X11_ahead_32 _ _ _ _ _ _ _).trans ?_
    refine x_goto.trans ?_
    refine (zrun_b (es := q_X11_ahead_44) rfl rfl).trans ?_
    exact x_iret
  · refine (t_X11_ahead_8 _ _ _ _ _ _ _).trans ?_
    refine (x_callS rfl rfl rfl rfl).trans ((cl_X11_ahead_X11_in _ _ _).trans ((gr_X11_in _ _ _ _ _).trans (pbd fun _ => ?_)))
    refine x_if.trans (pif_eq ?_ ?_)
    · refine (zrun_b (es := q_X11_ahead_32) rfl rfl).trans ?_
      refine (t_X11_ahead_32 _ _ _ _ _ _ _).trans ?_
      refine x_goto.trans ?_
      refine (zrun_b (es := q_X11_ahead_44) rfl rfl).trans ?_
      exact x_iret
    · refine (t_X11_ahead_20 _ _ _ _ _ _ _).trans ?_
      refine (x_callS rfl rfl rfl rfl).trans ((cl_X11_ahead_X11_in _ _ _).trans ((gr_X11_in _ _ _ _ _).trans (pbd fun _ => ?_)))
      refine x_if.trans (pif_ne ?_ ?_)
      · refine (zrun_b (es := q_X11_ahead_36) rfl rfl).trans ?_
        refine (t_X11_ahead_36 _ _ _ _ _ _).trans ?_
        refine (x_callV rfl rfl rfl rfl).trans ((cl_X11_ahead_X11_tries _ _ _).trans ((gr_X11_tries _ _ _ _ _ _).trans (pbd fun _ => ?_)))
        exact x_iret
      · refine (t_X11_ahead_32 _ _ _ _ _ _ _).trans ?_
        refine x_goto.trans ?_
        refine (zrun_b (es := q_X11_ahead_44) rfl rfl).trans ?_
        exact x_iret
noncomputable def g_X11_ahead {ρ : Type} (σ : zH) (av : List zAV) (q : zH → zAV → Option ρ) : Option ρ := match av with
  | [.inr (.inr (.inl (11, 0))), .inl xa1, .inl xa2, .inl xa3] => (d_X11_ahead σ xa1 xa2 xa3).bind fun p => q p.1 (vI p.2)
  | _ => none
theorem gr_X11_ahead {ρ : Type} (σ : zH) (xa1 : Int32) (xa2 : Int32) (xa3 : Int32) (q : zH → zAV → Option ρ) : g_X11_ahead σ [vR 11 0, vI xa1, vI xa2, vI xa3] q = (d_X11_ahead σ xa1 xa2 xa3).bind fun p => q p.1 (vI p.2) := rfl
theorem c_X11_ahead {ρ : Type} {X : zX} (hX : zHX X) {σ : zH} {av : List zAV} {q : zH → zAV → Option ρ} {r : ρ} (h : g_X11_ahead σ av q = some r) (hv : ∀ a ∈ av, zval X a) : zcon X 190 σ av q r := by
  unfold g_X11_ahead at h
  split at h
  · exact zcon_I (n := 190) (ml := 4) (rc := 0) (st := 0) (kd := 11) (np := 3) (by decide +kernel) (by decide) ⟨_, _, rfl, rfl⟩ (Nat.le_of_ble_eq_true rfl) hv h (fun y h1 => (zin_ok (hy_X11_ahead hX) bk_X11_ahead (fun t f hf => by
      cases hf) ((e_X11_ahead _ _ _ _).symm.trans h1)))
  · cases h
