/-! SleepWaves$Forecast.findStrike(LSleepWaves$Law;I)V -/
def q_X2_findStrike_23 : List zEnt := zE 23 (.aload_n 0) 1 :: zEf 24 (.getfield 12) 3 2 1 128 (2, 8, 5) :: zEf 27 (.getfield 53) 3 8 12 112 (0, 0, 0) :: zE 30 (.istore_n 3) 1 :: zEk 31 (.iconst 0) 1 0 :: zE 32 (.istore 4) 2 :: [zE 34 .nop 0]
def q_X2_findStrike_20 : List zEnt := zEc 20 (.invokevirtual 41) 3 82 3 92 1 :: q_X2_findStrike_23
def q_X2_findStrike_14 : List zEnt := zE 14 (.aload_n 0) 1 :: zEf 15 (.getfield 12) 3 2 1 128 (2, 8, 5) :: zE 18 (.aload_n 1) 1 :: zE 19 (.iload_n 2) 1 :: q_X2_findStrike_20
def q_X2_findStrike_11 : List zEnt := zEc 11 (.invokevirtual 38) 3 15 1 89 1 :: q_X2_findStrike_14
def q_X2_findStrike_10 : List zEnt := zE 10 (.aload_n 0) 1 :: q_X2_findStrike_11
def q_X2_findStrike_7 : List zEnt := zEc 7 (.invokevirtual 68) 3 16 4 98 1 :: q_X2_findStrike_10
def q_X2_findStrike_0 : List zEnt := zE 0 (.aload_n 0) 1 :: zEk 1 (.bipush (-2)) 2 (-2) :: zEk 3 (.bipush (-2)) 2 (-2) :: zEk 5 (.bipush (-2)) 2 (-2) :: q_X2_findStrike_7
def q_X2_findStrike_105 : List zEnt := zEa 105 (.goto (-71)) 3 34 :: []
def q_X2_findStrike_102 : List zEnt := zEk 102 (.iinc 4 1) 3 1 :: q_X2_findStrike_105
def q_X2_findStrike_99 : List zEnt := zEc 99 (.invokevirtual 68) 3 16 4 98 1 :: q_X2_findStrike_102
def q_X2_findStrike_85 : List zEnt := zE 85 (.aload_n 0) 1 :: zEf 86 (.getfield 12) 3 2 1 128 (2, 8, 5) :: zEf 89 (.getfield 53) 3 8 12 112 (0, 0, 0) :: zE 92 (.istore_n 3) 1 :: zE 93 (.aload_n 0) 1 :: zE 94 (.iload 4) 2 :: zE 96 (.iload_n 3) 1 :: zEk 97 (.bipush (-2)) 2 (-2) :: q_X2_findStrike_99
def q_X2_findStrike_82 : List zEnt := zEa 82 (.if_icmp .ge 20) 3 102 :: q_X2_findStrike_85
def q_X2_findStrike_74 : List zEnt := zE 74 (.aload_n 0) 1 :: zEf 75 (.getfield 12) 3 2 1 128 (2, 8, 5) :: zEf 78 (.getfield 53) 3 8 12 112 (0, 0, 0) :: zE 81 (.iload_n 3) 1 :: q_X2_findStrike_82
def q_X2_findStrike_71 : List zEnt := zEc 71 (.invokevirtual 41) 3 82 3 92 1 :: q_X2_findStrike_74
def q_X2_findStrike_61 : List zEnt := zE 61 .pop 1 :: zE 62 (.aload_n 0) 1 :: zEf 63 (.getfield 12) 3 2 1 128 (2, 8, 5) :: zE 66 (.aload_n 1) 1 :: zE 67 (.iload_n 2) 1 :: zE 68 (.iload 4) 2 :: zE 70 .isub 1 :: q_X2_findStrike_71
def q_X2_findStrike_58 : List zEnt := zEc 58 (.invokevirtual 45) 3 81 1 96 0 :: q_X2_findStrike_61
def q_X2_findStrike_54 : List zEnt := zE 54 (.aload_n 0) 1 :: zEf 55 (.getfield 12) 3 2 1 128 (2, 8, 5) :: q_X2_findStrike_58
def q_X2_findStrike_51 : List zEnt := zEc 51 (.invokevirtual 41) 3 82 3 92 1 :: q_X2_findStrike_54
def q_X2_findStrike_44 : List zEnt := zE 44 (.aload_n 0) 1 :: zEf 45 (.getfield 12) 3 2 1 128 (2, 8, 5) :: zE 48 (.aload_n 1) 1 :: zE 49 (.iload 4) 2 :: q_X2_findStrike_51
def q_X2_findStrike_41 : List zEnt := zEc 41 (.invokevirtual 38) 3 15 1 89 1 :: q_X2_findStrike_44
def q_X2_findStrike_40 : List zEnt := zE 40 (.aload_n 0) 1 :: q_X2_findStrike_41
def q_X2_findStrike_37 : List zEnt := zEa 37 (.if_icmp .ge 71) 3 108 :: q_X2_findStrike_40
def q_X2_findStrike_34 : List zEnt := zE 34 (.iload 4) 2 :: zE 36 (.iload_n 2) 1 :: q_X2_findStrike_37
def q_X2_findStrike_108 : List zEnt := zE 108 .return_ 1 :: []
def b_X2_findStrike : List (Nat × List zEnt) := [(0, q_X2_findStrike_0), (34, q_X2_findStrike_34), (102, q_X2_findStrike_102), (108, q_X2_findStrike_108)]
theorem bk_X2_findStrike : zchB 24 b_X2_findStrike = true := by decide +kernel
noncomputable def cc_X2_findStrike {ρ : Type} : Nat → zH → List zAV → (zH → zAV → Option ρ) → Option ρ := fun n σ av q => if n = 16 then g_X2_keep σ av q else if n = 15 then g_X2_restart σ av q else if n = 82 then g_X8_passQuarters σ av q else if n = 81 then g_X8_wakeAll σ av q else none
theorem cs_X2_findStrike {ρ : Type} {X : zX} (hX : zHX X) : zCS X (cc_X2_findStrike (ρ := ρ)) := by
  intro n σ av q r h hv
  unfold cc_X2_findStrike at h
  by_cases e_X2_keep : n = 16
  · rw [if_pos e_X2_keep] at h
    subst e_X2_keep
    exact c_X2_keep hX h hv
  rw [if_neg e_X2_keep] at h
  by_cases e_X2_restart : n = 15
  · rw [if_pos e_X2_restart] at h
    subst e_X2_restart
    exact c_X2_restart hX h hv
  rw [if_neg e_X2_restart] at h
  by_cases e_X8_passQuarters : n = 82
  · rw [if_pos e_X8_passQuarters] at h
    subst e_X8_passQuarters
    exact c_X8_passQuarters hX h hv
  rw [if_neg e_X8_passQuarters] at h
  by_cases e_X8_wakeAll : n = 81
  · rw [if_pos e_X8_wakeAll] at h
    subst e_X8_wakeAll
    exact c_X8_wakeAll hX h hv
  rw [if_neg e_X8_wakeAll] at h
  cases h
theorem cl_X2_findStrike_X2_keep {ρ : Type} (σ : zH) (av : List zAV) (q : zH → zAV → Option ρ) : cc_X2_findStrike 16 σ av q = g_X2_keep σ av q := rfl
theorem cl_X2_findStrike_X2_restart {ρ : Type} (σ : zH) (av : List zAV) (q : zH → zAV → Option ρ) : cc_X2_findStrike 15 σ av q = g_X2_restart σ av q := rfl
theorem cl_X2_findStrike_X8_passQuarters {ρ : Type} (σ : zH) (av : List zAV) (q : zH → zAV → Option ρ) : cc_X2_findStrike 82 σ av q = g_X8_passQuarters σ av q := rfl
theorem cl_X2_findStrike_X8_wakeAll {ρ : Type} (σ : zH) (av : List zAV) (q : zH → zAV → Option ρ) : cc_X2_findStrike 81 σ av q = g_X8_wakeAll σ av q := rfl
theorem hy_X2_findStrike {ρ : Type} {X : zX} (hX : zHX X) : zHY X 24 (cc_X2_findStrike (ρ := ρ)) := zHX.hY hX (cs_X2_findStrike hX) (zmok_all 24 (by decide))
def gl_X2_findStrike_34 {ρ : Type} (f : zH → Nat → Int32 → Int32 → Int32 → Option ρ) (σ : zH) (L st : List zAV) : Option ρ := match L, st with
  | [.inr (.inr (.inl (2, 0))), .inr (.inr (.inl (4, i1))), .inl x2, .inl x3, .inl x4], [] => f σ i1 x2 x3 x4
  | _, _ => none
theorem glr_X2_findStrike_34 {ρ : Type} (f : zH → Nat → Int32 → Int32 → Int32 → Option ρ) (σ : zH) (i1 : Nat) (x2 : Int32) (x3 : Int32) (x4 : Int32)  : gl_X2_findStrike_34 f σ [vR 2 0, vR 4 i1, vI x2, vI x3, vI x4] [] = f σ i1 x2 x3 x4 := rfl
theorem t_X2_findStrike_0 {G : Nat → zH → List zAV → List zAV → Option zH} (es : List zEnt) (σ : zH) (i1 : Nat) (x2 : Int32) (y3 : zAV) (y4 : zAV) (w1 : Int32) (w3 : Int32) (w5 : Int32) : zev cc_X2_findStrike G 9 krV (zE 0 (.aload_n 0) 1 :: zEk 1 (.bipush (-2)) 2 w1 :: zEk 3 (.bipush (-2)) 2 w3 :: zEk 5 (.bipush (-2)) 2 w5 :: es) σ [vR 2 0, vR 4 i1, vI x2, y3, y4] [] = zev cc_X2_findStrike G 9 krV es σ [vR 2 0, vR 4 i1, vI x2, y3, y4] [vI w5, vI w3, vI w1, vR 2 0] := rfl
theorem t_X2_findStrike_10 {G : Nat → zH → List zAV → List zAV → Option zH} (es : List zEnt) (σ : zH) (i1 : Nat) (x2 : Int32) (y3 : zAV) (y4 : zAV)  : zev cc_X2_findStrike G 9 krV (zE 10 (.aload_n 0) 1 :: es) σ [vR 2 0, vR 4 i1, vI x2, y3, y4] [] = zev cc_X2_findStrike G 9 krV es σ [vR 2 0, vR 4 i1, vI x2, y3, y4] [vR 2 0] := rfl
theorem t_X2_findStrike_14 {G : Nat → zH → List zAV → List zAV → Option zH} (es : List zEnt) (σ : zH) (i1 : Nat) (x2 : Int32) (y3 : zAV) (y4 : zAV)  : zev cc_X2_findStrike G 9 krV (zE 14 (.aload_n 0) 1 :: zEf 15 (.getfield 12) 3 2 1 128 (2, 8, 5) :: zE 18 (.aload_n 1) 1 :: zE 19 (.iload_n 2) 1 :: es) σ [vR 2 0, vR 4 i1, vI x2, y3, y4] [] = zev cc_X2_findStrike G 9 krV es σ [vR 2 0, vR 4 i1, vI x2, y3, y4] [vI x2, vR 4 i1, vR 8 5] := rfl
theorem t_X2_findStrike_23 {G : Nat → zH → List zAV → List zAV → Option zH} (es : List zEnt) (σ : zH) (i1 : Nat) (x2 : Int32) (y3 : zAV) (y4 : zAV) (w31 : Int32) : zev cc_X2_findStrike G 9 krV (zE 23 (.aload_n 0) 1 :: zEf 24 (.getfield 12) 3 2 1 128 (2, 8, 5) :: zEf 27 (.getfield 53) 3 8 12 112 (0, 0, 0) :: zE 30 (.istore_n 3) 1 :: zEk 31 (.iconst 0) 1 w31 :: zE 32 (.istore 4) 2 :: es) σ [vR 2 0, vR 4 i1, vI x2, y3, y4] [] = zev cc_X2_findStrike G 9 krV es σ [vR 2 0, vR 4 i1, vI x2, vI (σ.1 8 5 12), vI w31] [] := rfl
theorem t_X2_findStrike_34 {G : Nat → zH → List zAV → List zAV → Option zH} (es : List zEnt) (σ : zH) (i1 : Nat) (x2 : Int32) (x3 : Int32) (x4 : Int32)   : zev cc_X2_findStrike G 9 krV (zE 34 (.iload 4) 2 :: zE 36 (.iload_n 2) 1 :: es) σ [vR 2 0, vR 4 i1, vI x2, vI x3, vI x4] [] = zev cc_X2_findStrike G 9 krV es σ [vR 2 0, vR 4 i1, vI x2, vI x3, vI x4] [vI x2, vI x4] := rfl
theorem t_X2_findStrike_40 {G : Nat → zH → List zAV → List zAV → Option zH} (es : List zEnt) (σ : zH) (i1 : Nat) (x2 : Int32) (x3 : Int32) (x4 : Int32)   : zev cc_X2_findStrike G 9 krV (zE 40 (.aload_n 0) 1 :: es) σ [vR 2 0, vR 4 i1, vI x2, vI x3, vI x4] [] = zev cc_X2_findStrike G 9 krV es σ [vR 2 0, vR 4 i1, vI x2, vI x3, vI x4] [vR 2 0] := rfl
theorem t_X2_findStrike_44 {G : Nat → zH → List zAV → List zAV → Option zH} (es : List zEnt) (σ : zH) (i1 : Nat) (x2 : Int32) (x3 : Int32) (x4 : Int32)   : zev cc_X2_findStrike G 9 krV (zE 44 (.aload_n 0) 1 :: zEf 45 (.getfield 12) 3 2 1 128 (2, 8, 5) :: zE 48 (.aload_n 1) 1 :: zE 49 (.iload 4) 2 :: es) σ [vR 2 0, vR 4 i1, vI x2, vI x3, vI x4] [] = zev cc_X2_findStrike G 9 krV es σ [vR 2 0, vR 4 i1, vI x2, vI x3, vI x4] [vI x4, vR 4 i1, vR 8 5] := rfl
theorem t_X2_findStrike_54 {G : Nat → zH → List zAV → List zAV → Option zH} (es : List zEnt) (σ : zH) (i1 : Nat) (x2 : Int32) (x3 : Int32) (x4 : Int32)   : zev cc_X2_findStrike G 9 krV (zE 54 (.aload_n 0) 1 :: zEf 55 (.getfield 12) 3 2 1 128 (2, 8, 5) :: es) σ [vR 2 0, vR 4 i1, vI x2, vI x3, vI x4] [] = zev cc_X2_findStrike G 9 krV es σ [vR 2 0, vR 4 i1, vI x2, vI x3, vI x4] [vR 8 5] := rfl
theorem t_X2_findStrike_61 {G : Nat → zH → List zAV → List zAV → Option zH} (es : List zEnt) (σ : zH) (i1 : Nat) (x2 : Int32) (x3 : Int32) (x4 : Int32) (xs0 : Int32)   : zev cc_X2_findStrike G 9 krV (zE 61 .pop 1 :: zE 62 (.aload_n 0) 1 :: zEf 63 (.getfield 12) 3 2 1 128 (2, 8, 5) :: zE 66 (.aload_n 1) 1 :: zE 67 (.iload_n 2) 1 :: zE 68 (.iload 4) 2 :: zE 70 .isub 1 :: es) σ [vR 2 0, vR 4 i1, vI x2, vI x3, vI x4] [vI xs0] = zev cc_X2_findStrike G 9 krV es σ [vR 2 0, vR 4 i1, vI x2, vI x3, vI x4] [vI (x2 - x4), vR 4 i1, vR 8 5] := rfl
theorem t_X2_findStrike_74 {G : Nat → zH → List zAV → List zAV → Option zH} (es : List zEnt) (σ : zH) (i1 : Nat) (x2 : Int32) (x3 : Int32) (x4 : Int32)   : zev cc_X2_findStrike G 9 krV (zE 74 (.aload_n 0) 1 :: zEf 75 (.getfield 12) 3 2 1 128 (2, 8, 5) :: zEf 78 (.getfield 53) 3 8 12 112 (0, 0, 0) :: zE 81 (.iload_n 3) 1 :: es) σ [vR 2 0, vR 4 i1, vI x2, vI x3, vI x4] [] = zev cc_X2_findStrike G 9 krV es σ [vR 2 0, vR 4 i1, vI x2, vI x3, vI x4] [vI x3, vI (σ.1 8 5 12)] := rfl
theorem t_X2_findStrike_85 {G : Nat → zH → List zAV → List zAV → Option zH} (es : List zEnt) (σ : zH) (i1 : Nat) (x2 : Int32) (x4 : Int32) (y3 : zAV) (w97 : Int32) : zev cc_X2_findStrike G 9 krV (zE 85 (.aload_n 0) 1 :: zEf 86 (.getfield 12) 3 2 1 128 (2, 8, 5) :: zEf 89 (.getfield 53) 3 8 12 112 (0, 0, 0) :: zE 92 (.istore_n 3) 1 :: zE 93 (.aload_n 0) 1 :: zE 94 (.iload 4) 2 :: zE 96 (.iload_n 3) 1 :: zEk 97 (.bipush (-2)) 2 w97 :: es) σ [vR 2 0, vR 4 i1, vI x2, y3, vI x4] [] = zev cc_X2_findStrike G 9 krV es σ [vR 2 0, vR 4 i1, vI x2, vI (σ.1 8 5 12), vI x4] [vI w97, vI (σ.1 8 5 12), vI x4, vR 2 0] := rfl
theorem t_X2_findStrike_102 {G : Nat → zH → List zAV → List zAV → Option zH} (es : List zEnt) (σ : zH) (i1 : Nat) (x2 : Int32) (x3 : Int32) (x4 : Int32)  (w102 : Int32) : zev cc_X2_findStrike G 9 krV (zEk 102 (.iinc 4 1) 3 w102 :: es) σ [vR 2 0, vR 4 i1, vI x2, vI x3, vI x4] [] = zev cc_X2_findStrike G 9 krV es σ [vR 2 0, vR 4 i1, vI x2, vI x3, vI (x4 + w102)] [] := rfl
noncomputable def k_X2_findStrike_34  : Nat → zH → Nat → Int32 → Int32 → Int32 → Option zH
  | 0, _, _, _, _, _ => none
  | n + 1, σ, i1, x2, x3, x4 =>
    if x4 < x2 then
      (d_X2_restart σ).bind fun σ1 =>
      (d_X8_passQuarters σ1 5 i1 x4).bind fun σ2 =>
      (d_X8_wakeAll σ2 5).bind fun p3 =>
      (d_X8_passQuarters p3.1 5 i1 (x2 - x4)).bind fun σ4 =>
      if (σ4.1 8 5 12) < x3 then
        (d_X2_keep σ4 x4 (σ4.1 8 5 12) (-2 : Int32)).bind fun σ5 =>
        (k_X2_findStrike_34 n) σ5 i1 x2 (σ4.1 8 5 12) (x4 + (1 : Int32))
      else
        (k_X2_findStrike_34 n) σ4 i1 x2 x3 (x4 + (1 : Int32))
    else
      some σ
theorem e_X2_findStrike_34  (n : Nat) (σ : zH) (i1 : Nat) (x2 : Int32) (x3 : Int32) (x4 : Int32)  : k_X2_findStrike_34 (n + 1) σ i1 x2 x3 x4 = zin cc_X2_findStrike (fun t => if t = 34 then some (gl_X2_findStrike_34 (k_X2_findStrike_34 n)) else none) 9 krV b_X2_findStrike 34 σ [vR 2 0, vR 4 i1, vI x2, vI x3, vI x4] [] := by
  rw [k_X2_findStrike_34]
  refine Eq.symm ((zin_b (es := q_X2_findStrike_34) rfl).trans ?_)
  refine (t_X2_findStrike_34 _ _ _ _ _ _).trans ?_
  refine x_icmp.trans (pif_ge ?_ ?_)
  · refine (zrun_b (es := q_X2_findStrike_108) rfl rfl).trans ?_
    exact x_vret
  · refine (t_X2_findStrike_40 _ _ _ _ _ _).trans ?_
    refine (x_callV rfl rfl rfl rfl).trans ((cl_X2_findStrike_X2_restart _ _ _).trans ((gr_X2_restart _ _).trans (pbd fun _ => ?_)))
    refine (t_X2_findStrike_44 _ _ _ _ _ _).trans ?_
    refine (x_callV rfl rfl rfl rfl).trans ((cl_X2_findStrike_X8_passQuarters _ _ _).trans ((gr_X8_passQuarters _ _ _ _ _).trans (pbd fun _ => ?_)))
    refine (t_X2_findStrike_54 _ _ _ _ _ _).trans ?_
    refine (x_callV rfl rfl rfl rfl).trans ((cl_X2_findStrike_X8_wakeAll _ _ _).trans ((gr_X8_wakeAll _ _ _).trans (pbd fun _ => ?_)))
    refine (t_X2_findStrike_61 _ _ _ _ _ _ _).trans ?_
    refine (x_callV rfl rfl rfl rfl).trans ((cl_X2_findStrike_X8_passQuarters _ _ _).trans ((gr_X8_passQuarters _ _ _ _ _).trans (pbd fun _ => ?_)))
    refine (t_X2_findStrike_74 _ _ _ _ _ _).trans ?_
    refine x_icmp.trans (pif_ge ?_ ?_)
    · refine (zrun_b (es := q_X2_findStrike_102) rfl rfl).trans ?_
      refine (t_X2_findStrike_102 _ _ _ _ _ _ _).trans ?_
      refine x_goto.trans ?_
      exact (zrun_c rfl).trans (glr_X2_findStrike_34 _ _ _ _ _ _)
    · refine (t_X2_findStrike_85 _ _ _ _ _ _ _).trans ?_
      refine (x_callV rfl rfl rfl rfl).trans ((cl_X2_findStrike_X2_keep _ _ _).trans ((gr_X2_keep _ _ _ _ _).trans (pbd fun _ => ?_)))
      refine (t_X2_findStrike_102 _ _ _ _ _ _ _).trans ?_
      refine x_goto.trans ?_
      exact (zrun_c rfl).trans (glr_X2_findStrike_34 _ _ _ _ _ _)
theorem s_X2_findStrike_34 {X : zX} (hX : zHX X)   : ∀ n σ L st r, gl_X2_findStrike_34 (k_X2_findStrike_34 n) σ L st = some r → zGW X 24 krV 34 σ L st r := by
  intro n
  induction n with
  | zero =>
    intro σ L st r h
    unfold gl_X2_findStrike_34 at h
    split at h <;> cases h
  | succ n ih =>
    intro σ L st r h
    unfold gl_X2_findStrike_34 at h
    split at h
    · exact zin_ok (hy_X2_findStrike hX) bk_X2_findStrike (fun t f hf => by
      by_cases e34 : t = 34
      · rw [if_pos e34] at hf; subst e34; cases hf; exact ih
      rw [if_neg e34] at hf
      cases hf) ((e_X2_findStrike_34 _ _ _ _ _ _).symm.trans h)
    · cases h
noncomputable def d_X2_findStrike (σ : zH) (ia1 : Nat) (xa2 : Int32) : Option zH :=
  (d_X2_keep σ (-2 : Int32) (-2 : Int32) (-2 : Int32)).bind fun σ1 =>
  (d_X2_restart σ1).bind fun σ2 =>
  (d_X8_passQuarters σ2 5 ia1 xa2).bind fun σ3 =>
  (k_X2_findStrike_34 zN) σ3 ia1 xa2 (σ3.1 8 5 12) (0 : Int32)
theorem e_X2_findStrike (σ : zH) (ia1 : Nat) (xa2 : Int32) : d_X2_findStrike σ ia1 xa2 = zin cc_X2_findStrike (fun t => if t = 34 then some (gl_X2_findStrike_34 (k_X2_findStrike_34 zN)) else none) 9 krV b_X2_findStrike 0 σ [vR 2 0, vR 4 ia1, vI xa2, vU, vU] [] := by
  unfold d_X2_findStrike
  refine Eq.symm ((zin_b (es := q_X2_findStrike_0) rfl).trans ?_)
  refine (t_X2_findStrike_0 _ _ _ _ _ _ _ _ _).trans ?_
  refine (x_callV rfl rfl rfl rfl).trans ((cl_X2_findStrike_X2_keep _ _ _).trans ((gr_X2_keep _ _ _ _ _).trans (pbd fun _ => ?_)))
  refine (t_X2_findStrike_10 _ _ _ _ _ _).trans ?_
  refine (x_callV rfl rfl rfl rfl).trans ((cl_X2_findStrike_X2_restart _ _ _).trans ((gr_X2_restart _ _).trans (pbd fun _ => ?_)))
  refine (t_X2_findStrike_14 _ _ _ _ _ _).trans ?_
  refine (x_callV rfl rfl rfl rfl).trans ((cl_X2_findStrike_X8_passQuarters _ _ _).trans ((gr_X8_passQuarters _ _ _ _ _).trans (pbd fun _ => ?_)))
  refine (t_X2_findStrike_23 _ _ _ _ _ _ _).trans ?_
  refine x_cut.trans ?_
  exact (zrun_c rfl).trans (glr_X2_findStrike_34 _ _ _ _ _ _)
noncomputable def g_X2_findStrike {ρ : Type} (σ : zH) (av : List zAV) (q : zH → zAV → Option ρ) : Option ρ := match av with
  | [.inr (.inr (.inl (2, 0))), .inr (.inr (.inl (4, ia1))), .inl xa2] => (d_X2_findStrike σ ia1 xa2).bind fun σ => q σ vU
  | _ => none
theorem gr_X2_findStrike {ρ : Type} (σ : zH) (ia1 : Nat) (xa2 : Int32) (q : zH → zAV → Option ρ) : g_X2_findStrike σ [vR 2 0, vR 4 ia1, vI xa2] q = (d_X2_findStrike σ ia1 xa2).bind fun σ => q σ vU := rfl
theorem c_X2_findStrike {ρ : Type} {X : zX} (hX : zHX X) {σ : zH} {av : List zAV} {q : zH → zAV → Option ρ} {r : ρ} (h : g_X2_findStrike σ av q = some r) (hv : ∀ a ∈ av, zval X a) : zcon X 24 σ av q r := by
  unfold g_X2_findStrike at h
  split at h
  · exact zcon_V (n := 24) (ml := 5) (rc := 9) (st := 0) (kd := 2) (np := 2) (by decide +kernel) rfl ⟨_, _, rfl, rfl⟩ (Nat.le_of_ble_eq_true rfl) hv h (fun y h1 => (zin_ok (hy_X2_findStrike hX) bk_X2_findStrike (fun t f hf => by
      by_cases e34 : t = 34
      · rw [if_pos e34] at hf; subst e34; cases hf; exact ((fun σ L st r h => s_X2_findStrike_34 hX  zN σ L st r h))
      rw [if_neg e34] at hf
      cases hf) ((e_X2_findStrike _ _ _).symm.trans h1)))
  · cases h
/-! SleepWaves$State.upBits()I -/
def q_X8_upBits_18 : List zEnt := zE 18 .ireturn 1 :: []
def q_X8_upBits_0 : List zEnt := zEk 0 (.iconst 1) 1 1 :: zE 1 (.aload_n 0) 1 :: zEf 2 (.getfield 12) 3 8 0 84 (1, 0, 1) :: zEf 5 (.getfield 74) 3 0 0 31 (0, 0, 0) :: zE 8 .ishl 1 :: zEk 9 (.iconst 1) 1 1 :: zE 10 .isub 1 :: zE 11 (.aload_n 0) 1 :: zEf 12 (.getfield 54) 3 8 4 96 (0, 0, 0) :: zEk 15 (.iconst (-1)) 1 (-1) :: zE 16 .ixor 1 :: zE 17 .iand 1 :: q_X8_upBits_18
def b_X8_upBits : List (Nat × List zEnt) := [(0, q_X8_upBits_0)]
theorem bk_X8_upBits : zchB 74 b_X8_upBits = true := by decide +kernel
theorem hy_X8_upBits {ρ : Type} {X : zX} (hX : zHX X) : zHY X 74 (zc0 (ρ := ρ)) := zHX.hY hX (zc0_ok X) (zmok_all 74 (by decide))
theorem t_X8_upBits_0 {G : Nat → zH → List zAV → List zAV → Option (zH × Int32)} (es : List zEnt) (σ : zH) (i0 : Nat)  (w0 : Int32) (w9 : Int32) (w15 : Int32) : zev zc0 G 0 krI (zEk 0 (.iconst 1) 1 w0 :: zE 1 (.aload_n 0) 1 :: zEf 2 (.getfield 12) 3 8 0 84 (1, 0, 1) :: zEf 5 (.getfield 74) 3 0 0 31 (0, 0, 0) :: zE 8 .ishl 1 :: zEk 9 (.iconst 1) 1 w9 :: zE 10 .isub 1 :: zE 11 (.aload_n 0) 1 :: zEf 12 (.getfield 54) 3 8 4 96 (0, 0, 0) :: zEk 15 (.iconst (-1)) 1 w15 :: zE 16 .ixor 1 :: zE 17 .iand 1 :: es) σ [vR 8 i0] [] = zev zc0 G 0 krI es σ [vR 8 i0] [vI (((w0 <<< ((σ.1 0 (i0 + 1) 0) &&& 31)) - w9) &&& ((σ.1 8 i0 4) ^^^ w15))] := rfl
noncomputable def d_X8_upBits (σ : zH) (ia0 : Nat) : Option (zH × Int32) :=
  some (σ, ((((1 : Int32) <<< ((σ.1 0 (ia0 + 1) 0) &&& 31)) - (1 : Int32)) &&& ((σ.1 8 ia0 4) ^^^ (-1 : Int32))))
theorem e_X8_upBits (σ : zH) (ia0 : Nat) : d_X8_upBits σ ia0 = zin zc0 (fun t => none) 0 krI b_X8_upBits 0 σ [vR 8 ia0] [] := by
  unfold d_X8_upBits
  refine Eq.symm ((zin_b (es := q_X8_upBits_0) rfl).trans ?_)
  refine (t_X8_upBits_0 _ _ _ _ _ _).trans ?_
  exact x_iret
noncomputable def g_X8_upBits {ρ : Type} (σ : zH) (av : List zAV) (q : zH → zAV → Option ρ) : Option ρ := match av with
  | [.inr (.inr (.inl (8, ia0)))] => (d_X8_upBits σ ia0).bind fun p => q p.1 (vI p.2)
  | _ => none
theorem gr_X8_upBits {ρ : Type} (σ : zH) (ia0 : Nat) (q : zH → zAV → Option ρ) : g_X8_upBits σ [vR 8 ia0] q = (d_X8_upBits σ ia0).bind fun p => q p.1 (vI p.2) := rfl
theorem c_X8_upBits {ρ : Type} {X : zX} (hX : zHX X) {σ : zH} {av : List zAV} {q : zH → zAV → Option ρ} {r : ρ} (h : g_X8_upBits σ av q = some r) (hv : ∀ a ∈ av, zval X a) : zcon X 74 σ av q r := by
  unfold g_X8_upBits at h
  split at h
  · exact zcon_I (n := 74) (ml := 1) (rc := 0) (st := 0) (kd := 8) (np := 0) (by decide +kernel) (by decide) ⟨_, _, rfl, rfl⟩ (Nat.le_of_ble_eq_true rfl) hv h (fun y h1 => (zin_ok (hy_X8_upBits hX) bk_X8_upBits (fun t f hf => by
      cases hf) ((e_X8_upBits _ _).symm.trans h1)))
  · cases h
/-! SleepWaves$Gossip.foresee(LSleepWaves$Law;I)V -/
def q_X3_foresee_11 : List zEnt := zEk 11 (.iconst 0) 1 0 :: zE 12 (.istore_n 3) 1 :: [zE 13 .nop 0]
def q_X3_foresee_8 : List zEnt := zEc 8 (.invokevirtual 25) 3 72 2 100 1 :: q_X3_foresee_11
def q_X3_foresee_0 : List zEnt := zE 0 (.aload_n 0) 1 :: zEf 1 (.getfield 12) 3 3 1 134 (2, 8, 7) :: zE 4 (.aload_n 0) 1 :: zEf 5 (.getfield 22) 3 3 0 133 (2, 8, 0) :: q_X3_foresee_8
def q_X3_foresee_50 : List zEnt := zEa 50 (.goto (-37)) 3 13 :: []
def q_X3_foresee_47 : List zEnt := zEk 47 (.iinc 3 1) 3 1 :: q_X3_foresee_50
def q_X3_foresee_46 : List zEnt := zE 46 .iastore 1 :: q_X3_foresee_47
def q_X3_foresee_43 : List zEnt := zEc 43 (.invokevirtual 33) 3 74 1 102 0 :: q_X3_foresee_46
def q_X3_foresee_34 : List zEnt := zE 34 (.aload_n 0) 1 :: zEf 35 (.getfield 18) 3 3 2 135 (2, 23, 0) :: zE 38 (.iload_n 3) 1 :: zE 39 (.aload_n 0) 1 :: zEf 40 (.getfield 12) 3 3 1 134 (2, 8, 7) :: q_X3_foresee_43
def q_X3_foresee_31 : List zEnt := zEc 31 (.invokevirtual 29) 3 82 3 101 1 :: q_X3_foresee_34
def q_X3_foresee_25 : List zEnt := zE 25 (.aload_n 0) 1 :: zEf 26 (.getfield 12) 3 3 1 134 (2, 8, 7) :: zE 29 (.aload_n 1) 1 :: zEk 30 (.iconst 1) 1 1 :: q_X3_foresee_31
def q_X3_foresee_22 : List zEnt := zEa 22 (.if_icmp .ge 31) 3 53 :: q_X3_foresee_25
def q_X3_foresee_18 : List zEnt := zE 18 (.iload_n 3) 1 :: zEk 19 (.sipush 192) 3 192 :: q_X3_foresee_22
def q_X3_foresee_15 : List zEnt := zEa 15 (.if_icmp .ge 38) 3 53 :: q_X3_foresee_18
def q_X3_foresee_13 : List zEnt := zE 13 (.iload_n 3) 1 :: zE 14 (.iload_n 2) 1 :: q_X3_foresee_15
def q_X3_foresee_53 : List zEnt := zE 53 .return_ 1 :: []
def b_X3_foresee : List (Nat × List zEnt) := [(0, q_X3_foresee_0), (13, q_X3_foresee_13), (53, q_X3_foresee_53)]
theorem bk_X3_foresee : zchB 25 b_X3_foresee = true := by decide +kernel
noncomputable def cc_X3_foresee {ρ : Type} : Nat → zH → List zAV → (zH → zAV → Option ρ) → Option ρ := fun n σ av q => if n = 72 then g_X8_copyFrom σ av q else if n = 82 then g_X8_passQuarters σ av q else if n = 74 then g_X8_upBits σ av q else none
theorem cs_X3_foresee {ρ : Type} {X : zX} (hX : zHX X) : zCS X (cc_X3_foresee (ρ := ρ)) := by
  intro n σ av q r h hv
  unfold cc_X3_foresee at h
  by_cases e_X8_copyFrom : n = 72
  · rw [if_pos e_X8_copyFrom] at h
    subst e_X8_copyFrom
    exact c_X8_copyFrom hX h hv
  rw [if_neg e_X8_copyFrom] at h
  by_cases e_X8_passQuarters : n = 82
  · rw [if_pos e_X8_passQuarters] at h
    subst e_X8_passQuarters
    exact c_X8_passQuarters hX h hv
  rw [if_neg e_X8_passQuarters] at h
  by_cases e_X8_upBits : n = 74
  · rw [if_pos e_X8_upBits] at h
    subst e_X8_upBits
    exact c_X8_upBits hX h hv
  rw [if_neg e_X8_upBits] at h
  cases h
theorem cl_X3_foresee_X8_copyFrom {ρ : Type} (σ : zH) (av : List zAV) (q : zH → zAV → Option ρ) : cc_X3_foresee 72 σ av q = g_X8_copyFrom σ av q := rfl
theorem cl_X3_foresee_X8_passQuarters {ρ : Type} (σ : zH) (av : List zAV) (q : zH → zAV → Option ρ) : cc_X3_foresee 82 σ av q = g_X8_passQuarters σ av q := rfl
theorem cl_X3_foresee_X8_upBits {ρ : Type} (σ : zH) (av : List zAV) (q : zH → zAV → Option ρ) : cc_X3_foresee 74 σ av q = g_X8_upBits σ av q := rfl
theorem hy_X3_foresee {ρ : Type} {X : zX} (hX : zHX X) : zHY X 25 (cc_X3_foresee (ρ := ρ)) := zHX.hY hX (cs_X3_foresee hX) (zmok_all 25 (by decide))
def gl_X3_foresee_13 {ρ : Type} (f : zH → Nat → Int32 → Int32 → Option ρ) (σ : zH) (L st : List zAV) : Option ρ := match L, st with
  | [.inr (.inr (.inl (3, 0))), .inr (.inr (.inl (4, i1))), .inl x2, .inl x3], [] => f σ i1 x2 x3
  | _, _ => none
theorem glr_X3_foresee_13 {ρ : Type} (f : zH → Nat → Int32 → Int32 → Option ρ) (σ : zH) (i1 : Nat) (x2 : Int32) (x3 : Int32)  : gl_X3_foresee_13 f σ [vR 3 0, vR 4 i1, vI x2, vI x3] [] = f σ i1 x2 x3 := rfl
theorem t_X3_foresee_0 {G : Nat → zH → List zAV → List zAV → Option zH} (es : List zEnt) (σ : zH) (i1 : Nat) (x2 : Int32) (y3 : zAV)  : zev cc_X3_foresee G 9 krV (zE 0 (.aload_n 0) 1 :: zEf 1 (.getfield 12) 3 3 1 134 (2, 8, 7) :: zE 4 (.aload_n 0) 1 :: zEf 5 (.getfield 22) 3 3 0 133 (2, 8, 0) :: es) σ [vR 3 0, vR 4 i1, vI x2, y3] [] = zev cc_X3_foresee G 9 krV es σ [vR 3 0, vR 4 i1, vI x2, y3] [vR 8 0, vR 8 7] := rfl
theorem t_X3_foresee_11 {G : Nat → zH → List zAV → List zAV → Option zH} (es : List zEnt) (σ : zH) (i1 : Nat) (x2 : Int32) (y3 : zAV) (w11 : Int32) : zev cc_X3_foresee G 9 krV (zEk 11 (.iconst 0) 1 w11 :: zE 12 (.istore_n 3) 1 :: es) σ [vR 3 0, vR 4 i1, vI x2, y3] [] = zev cc_X3_foresee G 9 krV es σ [vR 3 0, vR 4 i1, vI x2, vI w11] [] := rfl
theorem t_X3_foresee_13 {G : Nat → zH → List zAV → List zAV → Option zH} (es : List zEnt) (σ : zH) (i1 : Nat) (x2 : Int32) (x3 : Int32)   : zev cc_X3_foresee G 9 krV (zE 13 (.iload_n 3) 1 :: zE 14 (.iload_n 2) 1 :: es) σ [vR 3 0, vR 4 i1, vI x2, vI x3] [] = zev cc_X3_foresee G 9 krV es σ [vR 3 0, vR 4 i1, vI x2, vI x3] [vI x2, vI x3] := rfl
theorem t_X3_foresee_18 {G : Nat → zH → List zAV → List zAV → Option zH} (es : List zEnt) (σ : zH) (i1 : Nat) (x2 : Int32) (x3 : Int32)  (w19 : Int32) : zev cc_X3_foresee G 9 krV (zE 18 (.iload_n 3) 1 :: zEk 19 (.sipush 192) 3 w19 :: es) σ [vR 3 0, vR 4 i1, vI x2, vI x3] [] = zev cc_X3_foresee G 9 krV es σ [vR 3 0, vR 4 i1, vI x2, vI x3] [vI w19, vI x3] := rfl
theorem t_X3_foresee_25 {G : Nat → zH → List zAV → List zAV → Option zH} (es : List zEnt) (σ : zH) (i1 : Nat) (x2 : Int32) (x3 : Int32)  (w30 : Int32) : zev cc_X3_foresee G 9 krV (zE 25 (.aload_n 0) 1 :: zEf 26 (.getfield 12) 3 3 1 134 (2, 8, 7) :: zE 29 (.aload_n 1) 1 :: zEk 30 (.iconst 1) 1 w30 :: es) σ [vR 3 0, vR 4 i1, vI x2, vI x3] [] = zev cc_X3_foresee G 9 krV es σ [vR 3 0, vR 4 i1, vI x2, vI x3] [vI w30, vR 4 i1, vR 8 7] := rfl
theorem t_X3_foresee_34 {G : Nat → zH → List zAV → List zAV → Option zH} (es : List zEnt) (σ : zH) (i1 : Nat) (x2 : Int32) (x3 : Int32)   : zev cc_X3_foresee G 9 krV (zE 34 (.aload_n 0) 1 :: zEf 35 (.getfield 18) 3 3 2 135 (2, 23, 0) :: zE 38 (.iload_n 3) 1 :: zE 39 (.aload_n 0) 1 :: zEf 40 (.getfield 12) 3 3 1 134 (2, 8, 7) :: es) σ [vR 3 0, vR 4 i1, vI x2, vI x3] [] = zev cc_X3_foresee G 9 krV es σ [vR 3 0, vR 4 i1, vI x2, vI x3] [vR 8 7, vI x3, vR 23 0] := rfl
theorem t_X3_foresee_47 {G : Nat → zH → List zAV → List zAV → Option zH} (es : List zEnt) (σ : zH) (i1 : Nat) (x2 : Int32) (x3 : Int32)  (w47 : Int32) : zev cc_X3_foresee G 9 krV (zEk 47 (.iinc 3 1) 3 w47 :: es) σ [vR 3 0, vR 4 i1, vI x2, vI x3] [] = zev cc_X3_foresee G 9 krV es σ [vR 3 0, vR 4 i1, vI x2, vI (x3 + w47)] [] := rfl
noncomputable def k_X3_foresee_13  : Nat → zH → Nat → Int32 → Int32 → Option zH
  | 0, _, _, _, _ => none
  | n + 1, σ, i1, x2, x3 =>
    if x3 < x2 then
      if x3 < (192 : Int32) then
        (d_X8_passQuarters σ 7 i1 (1 : Int32)).bind fun σ1 =>
        (d_X8_upBits σ1 7).bind fun p2 =>
        ix x3 192 fun j4 =>
        zlet (uI p2.1 23 0 j4 p2.2) fun σ3 =>
        (k_X3_foresee_13 n) σ3 i1 x2 (x3 + (1 : Int32))
      else
        some σ
    else
      some σ
theorem e_X3_foresee_13  (n : Nat) (σ : zH) (i1 : Nat) (x2 : Int32) (x3 : Int32)  : k_X3_foresee_13 (n + 1) σ i1 x2 x3 = zin cc_X3_foresee (fun t => if t = 13 then some (gl_X3_foresee_13 (k_X3_foresee_13 n)) else none) 9 krV b_X3_foresee 13 σ [vR 3 0, vR 4 i1, vI x2, vI x3] [] := by
  rw [k_X3_foresee_13]
  refine Eq.symm ((zin_b (es := q_X3_foresee_13) rfl).trans ?_)
  refine (t_X3_foresee_13 _ _ _ _ _).trans ?_
  refine x_icmp.trans (pif_ge ?_ ?_)
  · refine (zrun_b (es := q_X3_foresee_53) rfl rfl).trans ?_
    exact x_vret
  · refine (t_X3_foresee_18 _ _ _ _ _ _).trans ?_
    refine x_icmp.trans (pif_ge ?_ ?_)
    · refine (zrun_b (es := q_X3_foresee_53) rfl rfl).trans ?_
      exact x_vret
    · refine (t_X3_foresee_25 _ _ _ _ _ _).trans ?_
      refine (x_callV rfl rfl rfl rfl).trans ((cl_X3_foresee_X8_passQuarters _ _ _).trans ((gr_X8_passQuarters _ _ _ _ _).trans (pbd fun _ => ?_)))
      refine (t_X3_foresee_34 _ _ _ _ _).trans ?_
      refine (x_callV rfl rfl rfl rfl).trans ((cl_X3_foresee_X8_upBits _ _ _).trans ((gr_X8_upBits _ _ _).trans (pbd fun _ => ?_)))
      refine (x_iast (N := 192) rfl rfl).trans (pix fun _ => plt fun _ => ?_)
      refine (t_X3_foresee_47 _ _ _ _ _ _).trans ?_
      refine x_goto.trans ?_
      exact (zrun_c rfl).trans (glr_X3_foresee_13 _ _ _ _ _)
theorem s_X3_foresee_13 {X : zX} (hX : zHX X)   : ∀ n σ L st r, gl_X3_foresee_13 (k_X3_foresee_13 n) σ L st = some r → zGW X 25 krV 13 σ L st r := by
  intro n
  induction n with
  | zero =>
    intro σ L st r h
    unfold gl_X3_foresee_13 at h
    split at h <;> cases h
  | succ n ih =>
    intro σ L st r h
    unfold gl_X3_foresee_13 at h
    split at h
    · exact zin_ok (hy_X3_foresee hX) bk_X3_foresee (fun t f hf => by
      by_cases e13 : t = 13
      · rw [if_pos e13] at hf; subst e13; cases hf; exact ih
      rw [if_neg e13] at hf
      cases hf) ((e_X3_foresee_13 _ _ _ _ _).symm.trans h)
    · cases h
noncomputable def d_X3_foresee (σ : zH) (ia1 : Nat) (xa2 : Int32) : Option zH :=
  (d_X8_copyFrom σ 7 0).bind fun σ1 =>
  (k_X3_foresee_13 zN) σ1 ia1 xa2 (0 : Int32)
theorem e_X3_foresee (σ : zH) (ia1 : Nat) (xa2 : Int32) : d_X3_foresee σ ia1 xa2 = zin cc_X3_foresee (fun t => if t = 13 then some (gl_X3_foresee_13 (k_X3_foresee_13 zN)) else none) 9 krV b_X3_foresee 0 σ [vR 3 0, vR 4 ia1, vI xa2, vU] [] := by
  unfold d_X3_foresee
  refine Eq.symm ((zin_b (es := q_X3_foresee_0) rfl).trans ?_)
  refine (t_X3_foresee_0 _ _ _ _ _).trans ?_
  refine (x_callV rfl rfl rfl rfl).trans ((cl_X3_foresee_X8_copyFrom _ _ _).trans ((gr_X8_copyFrom _ _ _ _).trans (pbd fun _ => ?_)))
  refine (t_X3_foresee_11 _ _ _ _ _ _).trans ?_
  refine x_cut.trans ?_
  exact (zrun_c rfl).trans (glr_X3_foresee_13 _ _ _ _ _)
noncomputable def g_X3_foresee {ρ : Type} (σ : zH) (av : List zAV) (q : zH → zAV → Option ρ) : Option ρ := match av with
  | [.inr (.inr (.inl (3, 0))), .inr (.inr (.inl (4, ia1))), .inl xa2] => (d_X3_foresee σ ia1 xa2).bind fun σ => q σ vU
  | _ => none
theorem gr_X3_foresee {ρ : Type} (σ : zH) (ia1 : Nat) (xa2 : Int32) (q : zH → zAV → Option ρ) : g_X3_foresee σ [vR 3 0, vR 4 ia1, vI xa2] q = (d_X3_foresee σ ia1 xa2).bind fun σ => q σ vU := rfl
theorem c_X3_foresee {ρ : Type} {X : zX} (hX : zHX X) {σ : zH} {av : List zAV} {q : zH → zAV → Option ρ} {r : ρ} (h : g_X3_foresee σ av q = some r) (hv : ∀ a ∈ av, zval X a) : zcon X 25 σ av q r := by
  unfold g_X3_foresee at h
  split at h
  · exact zcon_V (n := 25) (ml := 4) (rc := 9) (st := 0) (kd := 3) (np := 2) (by decide +kernel) rfl ⟨_, _, rfl, rfl⟩ (Nat.le_of_ble_eq_true rfl) hv h (fun y h1 => (zin_ok (hy_X3_foresee hX) bk_X3_foresee (fun t f hf => by
      by_cases e13 : t = 13
      · rw [if_pos e13] at hf; subst e13; cases hf; exact ((fun σ L st r h => s_X3_foresee_13 hX  zN σ L st r h))
      rw [if_neg e13] at hf
      cases hf) ((e_X3_foresee _ _ _).symm.trans h1)))
  · cases h
/-! SleepWaves$Gossip.firstToWin(II)I -/
def q_X3_firstToWin_0 : List zEnt := zE 0 (.aload_n 0) 1 :: zEf 1 (.getfield 22) 3 3 0 133 (2, 8, 0) :: zEf 4 (.getfield 41) 3 8 0 85 (1, 0, 1) :: zE 7 (.astore_n 3) 1 :: zEk 8 (.iconst 0) 1 0 :: zE 9 (.istore 4) 2 :: [zE 11 .nop 0]
def q_X3_firstToWin_49 : List zEnt := zEa 49 (.if_icmp .ne 7) 3 56 :: [zE 52 .nop 0]
def q_X3_firstToWin_48 : List zEnt := zE 48 .iaload 1 :: q_X3_firstToWin_49
def q_X3_firstToWin_43 : List zEnt := zE 43 (.aload_n 3) 1 :: zEf 44 (.getfield 61) 3 0 3 46 (1, 14, 0) :: zE 47 (.iload_n 1) 1 :: q_X3_firstToWin_48
def q_X3_firstToWin_42 : List zEnt := zE 42 .iaload 1 :: q_X3_firstToWin_43
def q_X3_firstToWin_36 : List zEnt := zE 36 (.aload_n 3) 1 :: zEf 37 (.getfield 61) 3 0 3 46 (1, 14, 0) :: zE 40 (.iload 4) 2 :: q_X3_firstToWin_42
def q_X3_firstToWin_33 : List zEnt := zEa 33 (.if_icmp .eq 19) 3 52 :: q_X3_firstToWin_36
def q_X3_firstToWin_32 : List zEnt := zE 32 .iaload 1 :: q_X3_firstToWin_33
def q_X3_firstToWin_27 : List zEnt := zE 27 (.aload_n 3) 1 :: zEf 28 (.getfield 58) 3 0 2 41 (1, 13, 0) :: zE 31 (.iload_n 1) 1 :: q_X3_firstToWin_32
def q_X3_firstToWin_26 : List zEnt := zE 26 .iaload 1 :: q_X3_firstToWin_27
def q_X3_firstToWin_20 : List zEnt := zE 20 (.aload_n 3) 1 :: zEf 21 (.getfield 58) 3 0 2 41 (1, 13, 0) :: zE 24 (.iload 4) 2 :: q_X3_firstToWin_26
def q_X3_firstToWin_17 : List zEnt := zEa 17 (.if_icmp .ge 67) 3 84 :: q_X3_firstToWin_20
def q_X3_firstToWin_11 : List zEnt := zE 11 (.iload 4) 2 :: zE 13 (.aload_n 3) 1 :: zEf 14 (.getfield 51) 3 0 0 32 (0, 0, 0) :: q_X3_firstToWin_17
def q_X3_firstToWin_53 : List zEnt := zEa 53 (.goto 4) 3 57 :: []
def q_X3_firstToWin_52 : List zEnt := zEk 52 (.iconst 1) 1 1 :: q_X3_firstToWin_53
def q_X3_firstToWin_56 : List zEnt := zEk 56 (.iconst 0) 1 0 :: [zE 57 .nop 0]
def q_X3_firstToWin_77 : List zEnt := zE 77 .ireturn 1 :: []
def q_X3_firstToWin_73 : List zEnt := zEk 73 (.iconst 1) 1 1 :: zE 74 (.iload 4) 2 :: zE 76 .ishl 1 :: q_X3_firstToWin_77
def q_X3_firstToWin_70 : List zEnt := zEa 70 (.ifCond .eq 8) 3 78 :: q_X3_firstToWin_73
def q_X3_firstToWin_68 : List zEnt := zE 68 (.iload 5) 2 :: q_X3_firstToWin_70
def q_X3_firstToWin_65 : List zEnt := zEa 65 (.ifCond .eq 13) 3 78 :: q_X3_firstToWin_68
def q_X3_firstToWin_57 : List zEnt := zE 57 (.istore 5) 2 :: zE 59 (.iload_n 2) 1 :: zE 60 (.iload 4) 2 :: zE 62 .ishr 1 :: zEk 63 (.iconst 1) 1 1 :: zE 64 .iand 1 :: q_X3_firstToWin_65
def q_X3_firstToWin_81 : List zEnt := zEa 81 (.goto (-70)) 3 11 :: []
def q_X3_firstToWin_78 : List zEnt := zEk 78 (.iinc 4 1) 3 1 :: q_X3_firstToWin_81
def q_X3_firstToWin_85 : List zEnt := zE 85 .ireturn 1 :: []
def q_X3_firstToWin_84 : List zEnt := zEk 84 (.iconst 0) 1 0 :: q_X3_firstToWin_85
def b_X3_firstToWin : List (Nat × List zEnt) := [(0, q_X3_firstToWin_0), (11, q_X3_firstToWin_11), (52, q_X3_firstToWin_52), (56, q_X3_firstToWin_56), (57, q_X3_firstToWin_57), (78, q_X3_firstToWin_78), (84, q_X3_firstToWin_84)]
theorem bk_X3_firstToWin : zchB 28 b_X3_firstToWin = true := by decide +kernel
theorem hy_X3_firstToWin {ρ : Type} {X : zX} (hX : zHX X) : zHY X 28 (zc0 (ρ := ρ)) := zHX.hY hX (zc0_ok X) (zmok_all 28 (by decide))
def gl_X3_firstToWin_11 {ρ : Type} (f : zH → Int32 → Int32 → Int32 → Option ρ) (σ : zH) (L st : List zAV) : Option ρ := match L, st with
  | [_, .inl x1, .inl x2, .inr (.inr (.inl (0, 1))), .inl x4, _], [] => f σ x1 x2 x4
  | _, _ => none
def gl_X3_firstToWin_52 {ρ : Type} (f : zH → Int32 → Int32 → Int32 → Option ρ) (σ : zH) (L st : List zAV) : Option ρ := match L, st with
  | [_, .inl x1, .inl x2, .inr (.inr (.inl (0, 1))), .inl x4, _], [] => f σ x1 x2 x4
  | _, _ => none
def gl_X3_firstToWin_57 {ρ : Type} (f : zH → Int32 → Int32 → Int32 → Int32 → Option ρ) (σ : zH) (L st : List zAV) : Option ρ := match L, st with
  | [_, .inl x1, .inl x2, .inr (.inr (.inl (0, 1))), .inl x4, _], [.inl xs0] => f σ x1 x2 x4 xs0
  | _, _ => none
theorem glr_X3_firstToWin_11 {ρ : Type} (f : zH → Int32 → Int32 → Int32 → Option ρ) (σ : zH) (x1 : Int32) (x2 : Int32) (x4 : Int32) (y0 : zAV) (y5 : zAV) : gl_X3_firstToWin_11 f σ [y0, vI x1, vI x2, vR 0 1, vI x4, y5] [] = f σ x1 x2 x4 := rfl
theorem glr_X3_firstToWin_52 {ρ : Type} (f : zH → Int32 → Int32 → Int32 → Option ρ) (σ : zH) (x1 : Int32) (x2 : Int32) (x4 : Int32) (y0 : zAV) (y5 : zAV) : gl_X3_firstToWin_52 f σ [y0, vI x1, vI x2, vR 0 1, vI x4, y5] [] = f σ x1 x2 x4 := rfl
theorem glr_X3_firstToWin_57 {ρ : Type} (f : zH → Int32 → Int32 → Int32 → Int32 → Option ρ) (σ : zH) (x1 : Int32) (x2 : Int32) (x4 : Int32) (xs0 : Int32) (y0 : zAV) (y5 : zAV) : gl_X3_firstToWin_57 f σ [y0, vI x1, vI x2, vR 0 1, vI x4, y5] [vI xs0] = f σ x1 x2 x4 xs0 := rfl
theorem t_X3_firstToWin_0 {G : Nat → zH → List zAV → List zAV → Option (zH × Int32)} (es : List zEnt) (σ : zH) (x1 : Int32) (x2 : Int32) (y3 : zAV) (y4 : zAV) (y5 : zAV) (w8 : Int32) : zev zc0 G 0 krI (zE 0 (.aload_n 0) 1 :: zEf 1 (.getfield 22) 3 3 0 133 (2, 8, 0) :: zEf 4 (.getfield 41) 3 8 0 85 (1, 0, 1) :: zE 7 (.astore_n 3) 1 :: zEk 8 (.iconst 0) 1 w8 :: zE 9 (.istore 4) 2 :: es) σ [vR 3 0, vI x1, vI x2, y3, y4, y5] [] = zev zc0 G 0 krI es σ [vR 3 0, vI x1, vI x2, vR 0 (0 + 1), vI w8, y5] [] := rfl
theorem t_X3_firstToWin_11 {G : Nat → zH → List zAV → List zAV → Option (zH × Int32)} (es : List zEnt) (σ : zH) (x1 : Int32) (x2 : Int32) (x4 : Int32) (y0 : zAV) (y5 : zAV)  : zev zc0 G 0 krI (zE 11 (.iload 4) 2 :: zE 13 (.aload_n 3) 1 :: zEf 14 (.getfield 51) 3 0 0 32 (0, 0, 0) :: es) σ [y0, vI x1, vI x2, vR 0 1, vI x4, y5] [] = zev zc0 G 0 krI es σ [y0, vI x1, vI x2, vR 0 1, vI x4, y5] [vI (σ.1 0 1 0), vI x4] := rfl
theorem t_X3_firstToWin_20 {G : Nat → zH → List zAV → List zAV → Option (zH × Int32)} (es : List zEnt) (σ : zH) (x1 : Int32) (x2 : Int32) (x4 : Int32) (y0 : zAV) (y5 : zAV)  : zev zc0 G 0 krI (zE 20 (.aload_n 3) 1 :: zEf 21 (.getfield 58) 3 0 2 41 (1, 13, 0) :: zE 24 (.iload 4) 2 :: es) σ [y0, vI x1, vI x2, vR 0 1, vI x4, y5] [] = zev zc0 G 0 krI es σ [y0, vI x1, vI x2, vR 0 1, vI x4, y5] [vI x4, vR 13 (1 + 0)] := rfl
theorem t_X3_firstToWin_27 {G : Nat → zH → List zAV → List zAV → Option (zH × Int32)} (es : List zEnt) (σ : zH) (x1 : Int32) (x2 : Int32) (x4 : Int32) (xs0 : Int32) (y0 : zAV) (y5 : zAV)  : zev zc0 G 0 krI (zE 27 (.aload_n 3) 1 :: zEf 28 (.getfield 58) 3 0 2 41 (1, 13, 0) :: zE 31 (.iload_n 1) 1 :: es) σ [y0, vI x1, vI x2, vR 0 1, vI x4, y5] [vI xs0] = zev zc0 G 0 krI es σ [y0, vI x1, vI x2, vR 0 1, vI x4, y5] [vI x1, vR 13 (1 + 0), vI xs0] := rfl
theorem t_X3_firstToWin_36 {G : Nat → zH → List zAV → List zAV → Option (zH × Int32)} (es : List zEnt) (σ : zH) (x1 : Int32) (x2 : Int32) (x4 : Int32) (y0 : zAV) (y5 : zAV)  : zev zc0 G 0 krI (zE 36 (.aload_n 3) 1 :: zEf 37 (.getfield 61) 3 0 3 46 (1, 14, 0) :: zE 40 (.iload 4) 2 :: es) σ [y0, vI x1, vI x2, vR 0 1, vI x4, y5] [] = zev zc0 G 0 krI es σ [y0, vI x1, vI x2, vR 0 1, vI x4, y5] [vI x4, vR 14 (1 + 0)] := rfl
theorem t_X3_firstToWin_43 {G : Nat → zH → List zAV → List zAV → Option (zH × Int32)} (es : List zEnt) (σ : zH) (x1 : Int32) (x2 : Int32) (x4 : Int32) (xs0 : Int32) (y0 : zAV) (y5 : zAV)  : zev zc0 G 0 krI (zE 43 (.aload_n 3) 1 :: zEf 44 (.getfield 61) 3 0 3 46 (1, 14, 0) :: zE 47 (.iload_n 1) 1 :: es) σ [y0, vI x1, vI x2, vR 0 1, vI x4, y5] [vI xs0] = zev zc0 G 0 krI es σ [y0, vI x1, vI x2, vR 0 1, vI x4, y5] [vI x1, vR 14 (1 + 0), vI xs0] := rfl
theorem t_X3_firstToWin_52 {G : Nat → zH → List zAV → List zAV → Option (zH × Int32)} (es : List zEnt) (σ : zH) (x1 : Int32) (x2 : Int32) (x4 : Int32) (y0 : zAV) (y5 : zAV) (w52 : Int32) : zev zc0 G 0 krI (zEk 52 (.iconst 1) 1 w52 :: es) σ [y0, vI x1, vI x2, vR 0 1, vI x4, y5] [] = zev zc0 G 0 krI es σ [y0, vI x1, vI x2, vR 0 1, vI x4, y5] [vI w52] := rfl
theorem t_X3_firstToWin_56 {G : Nat → zH → List zAV → List zAV → Option (zH × Int32)} (es : List zEnt) (σ : zH) (x1 : Int32) (x2 : Int32) (x4 : Int32) (y0 : zAV) (y5 : zAV) (w56 : Int32) : zev zc0 G 0 krI (zEk 56 (.iconst 0) 1 w56 :: es) σ [y0, vI x1, vI x2, vR 0 1, vI x4, y5] [] = zev zc0 G 0 krI es σ [y0, vI x1, vI x2, vR 0 1, vI x4, y5] [vI w56] := rfl
theorem t_X3_firstToWin_57 {G : Nat → zH → List zAV → List zAV → Option (zH × Int32)} (es : List zEnt) (σ : zH) (x1 : Int32) (x2 : Int32) (x4 : Int32) (xs0 : Int32) (y0 : zAV) (y5 : zAV) (w63 : Int32) : zev zc0 G 0 krI (zE 57 (.istore 5) 2 :: zE 59 (.iload_n 2) 1 :: zE 60 (.iload 4) 2 :: zE 62 .ishr 1 :: zEk 63 (.iconst 1) 1 w63 :: zE 64 .iand 1 :: es) σ [y0, vI x1, vI x2, vR 0 1, vI x4, y5] [vI xs0] = zev zc0 G 0 krI es σ [y0, vI x1, vI x2, vR 0 1, vI x4, vI xs0] [vI ((x2 >>> (x4 &&& 31)) &&& w63)] := rfl
theorem t_X3_firstToWin_68 {G : Nat → zH → List zAV → List zAV → Option (zH × Int32)} (es : List zEnt) (σ : zH) (x1 : Int32) (x2 : Int32) (x4 : Int32) (x5 : Int32) (y0 : zAV)  : zev zc0 G 0 krI (zE 68 (.iload 5) 2 :: es) σ [y0, vI x1, vI x2, vR 0 1, vI x4, vI x5] [] = zev zc0 G 0 krI es σ [y0, vI x1, vI x2, vR 0 1, vI x4, vI x5] [vI x5] := rfl
theorem t_X3_firstToWin_73 {G : Nat → zH → List zAV → List zAV → Option (zH × Int32)} (es : List zEnt) (σ : zH) (x4 : Int32) (y0 : zAV) (y1 : zAV) (y2 : zAV) (y3 : zAV) (y5 : zAV) (w73 : Int32) : zev zc0 G 0 krI (zEk 73 (.iconst 1) 1 w73 :: zE 74 (.iload 4) 2 :: zE 76 .ishl 1 :: es) σ [y0, y1, y2, y3, vI x4, y5] [] = zev zc0 G 0 krI es σ [y0, y1, y2, y3, vI x4, y5] [vI (w73 <<< (x4 &&& 31))] := rfl
theorem t_X3_firstToWin_78 {G : Nat → zH → List zAV → List zAV → Option (zH × Int32)} (es : List zEnt) (σ : zH) (x1 : Int32) (x2 : Int32) (x4 : Int32) (y0 : zAV) (y5 : zAV) (w78 : Int32) : zev zc0 G 0 krI (zEk 78 (.iinc 4 1) 3 w78 :: es) σ [y0, vI x1, vI x2, vR 0 1, vI x4, y5] [] = zev zc0 G 0 krI es σ [y0, vI x1, vI x2, vR 0 1, vI (x4 + w78), y5] [] := rfl
theorem t_X3_firstToWin_84 {G : Nat → zH → List zAV → List zAV → Option (zH × Int32)} (es : List zEnt) (σ : zH)  (y0 : zAV) (y1 : zAV) (y2 : zAV) (y3 : zAV) (y4 : zAV) (y5 : zAV) (w84 : Int32) : zev zc0 G 0 krI (zEk 84 (.iconst 0) 1 w84 :: es) σ [y0, y1, y2, y3, y4, y5] [] = zev zc0 G 0 krI es σ [y0, y1, y2, y3, y4, y5] [vI w84] := rfl
noncomputable def j_X3_firstToWin_57 (c11 : zH → Int32 → Int32 → Int32 → Option (zH × Int32)) (σ : zH) (x1 : Int32) (x2 : Int32) (x4 : Int32) (xs0 : Int32) : Option (zH × Int32) :=
  if ((x2 >>> (x4 &&& 31)) &&& (1 : Int32)) = 0 then
    c11 σ x1 x2 (x4 + (1 : Int32))
  else
    if xs0 = 0 then
      c11 σ x1 x2 (x4 + (1 : Int32))
    else
      some (σ, ((1 : Int32) <<< (x4 &&& 31)))
theorem e_X3_firstToWin_57 (c11 : zH → Int32 → Int32 → Int32 → Option (zH × Int32)) (σ : zH) (x1 : Int32) (x2 : Int32) (x4 : Int32) (xs0 : Int32) (y0 : zAV) (y5 : zAV) : j_X3_firstToWin_57 c11 σ x1 x2 x4 xs0 = zin zc0 (fun t => if t = 11 then some (gl_X3_firstToWin_11 c11) else none) 0 krI b_X3_firstToWin 57 σ [y0, vI x1, vI x2, vR 0 1, vI x4, y5] [vI xs0] := by
  unfold j_X3_firstToWin_57
  refine Eq.symm ((zin_b (es := q_X3_firstToWin_57) rfl).trans ?_)
  refine (t_X3_firstToWin_57 _ _ _ _ _ _ _ _ _).trans ?_
  refine x_if.trans (pif_eq ?_ ?_)
  · refine (zrun_b (es := q_X3_firstToWin_78) rfl rfl).trans ?_
    refine (t_X3_firstToWin_78 _ _ _ _ _ _ _ _).trans ?_
    refine x_goto.trans ?_
    exact (zrun_c rfl).trans (glr_X3_firstToWin_11 _ _ _ _ _ _ _)
  · refine (t_X3_firstToWin_68 _ _ _ _ _ _ _).trans ?_
    refine x_if.trans (pif_eq ?_ ?_)
    · refine (zrun_b (es := q_X3_firstToWin_78) rfl rfl).trans ?_
      refine (t_X3_firstToWin_78 _ _ _ _ _ _ _ _).trans ?_
      refine x_goto.trans ?_
      exact (zrun_c rfl).trans (glr_X3_firstToWin_11 _ _ _ _ _ _ _)
    · refine (t_X3_firstToWin_73 _ _ _ _ _ _ _ _ _).trans ?_
      exact x_iret
theorem s_X3_firstToWin_57 {X : zX} (hX : zHX X) {c11 : zH → Int32 → Int32 → Int32 → Option (zH × Int32)} (h11 : ∀ σ L st r, gl_X3_firstToWin_11 c11 σ L st = some r → zGW X 28 krI 11 σ L st r) : ∀ σ L st r, gl_X3_firstToWin_57 (j_X3_firstToWin_57 c11) σ L st = some r → zGW X 28 krI 57 σ L st r := by
  intro σ L st r h
  unfold gl_X3_firstToWin_57 at h
  split at h
  · exact zin_ok (hy_X3_firstToWin hX) bk_X3_firstToWin (fun t f hf => by
    by_cases e11 : t = 11
    · rw [if_pos e11] at hf; subst e11; cases hf; exact h11
    rw [if_neg e11] at hf
    cases hf) ((e_X3_firstToWin_57 _ _ _ _ _ _ _ _).symm.trans h)
  · cases h
noncomputable def j_X3_firstToWin_52 (c11 : zH → Int32 → Int32 → Int32 → Option (zH × Int32)) (σ : zH) (x1 : Int32) (x2 : Int32) (x4 : Int32) : Option (zH × Int32) :=
  (j_X3_firstToWin_57 c11) σ x1 x2 x4 (1 : Int32)
theorem e_X3_firstToWin_52 (c11 : zH → Int32 → Int32 → Int32 → Option (zH × Int32)) (σ : zH) (x1 : Int32) (x2 : Int32) (x4 : Int32) (y0 : zAV) (y5 : zAV) : j_X3_firstToWin_52 c11 σ x1 x2 x4 = zin zc0 (fun t => if t = 57 then some (gl_X3_firstToWin_57 (j_X3_firstToWin_57 c11)) else none) 0 krI b_X3_firstToWin 52 σ [y0, vI x1, vI x2, vR 0 1, vI x4, y5] [] := by
  unfold j_X3_firstToWin_52
  refine Eq.symm ((zin_b (es := q_X3_firstToWin_52) rfl).trans ?_)
  refine (t_X3_firstToWin_52 _ _ _ _ _ _ _ _).trans ?_
  refine x_goto.trans ?_
  exact (zrun_c rfl).trans (glr_X3_firstToWin_57 _ _ _ _ _ _ _ _)
theorem s_X3_firstToWin_52 {X : zX} (hX : zHX X) {c11 : zH → Int32 → Int32 → Int32 → Option (zH × Int32)} (h11 : ∀ σ L st r, gl_X3_firstToWin_11 c11 σ L st = some r → zGW X 28 krI 11 σ L st r) : ∀ σ L st r, gl_X3_firstToWin_52 (j_X3_firstToWin_52 c11) σ L st = some r → zGW X 28 krI 52 σ L st r := by
  intro σ L st r h
  unfold gl_X3_firstToWin_52 at h
  split at h
  · exact zin_ok (hy_X3_firstToWin hX) bk_X3_firstToWin (fun t f hf => by
    by_cases e57 : t = 57
    · rw [if_pos e57] at hf; subst e57; cases hf; exact (s_X3_firstToWin_57 hX h11)
    rw [if_neg e57] at hf
    cases hf) ((e_X3_firstToWin_52 _ _ _ _ _ _ _).symm.trans h)
  · cases h
noncomputable def k_X3_firstToWin_11  : Nat → zH → Int32 → Int32 → Int32 → Option (zH × Int32)
  | 0, _, _, _, _ => none
  | n + 1, σ, x1, x2, x4 =>
    if x4 < (σ.1 0 1 0) then
      ix x4 12 fun j1 =>
      ix x1 12 fun j2 =>
      if (σ.1 13 (1 + 0) j1) = (σ.1 13 (1 + 0) j2) then
        (j_X3_firstToWin_52 (k_X3_firstToWin_11 n)) σ x1 x2 x4
      else
        ix x4 12 fun j3 =>
        ix x1 12 fun j4 =>
        if (σ.1 14 (1 + 0) j3) = (σ.1 14 (1 + 0) j4) then
          (j_X3_firstToWin_52 (k_X3_firstToWin_11 n)) σ x1 x2 x4
        else
          (j_X3_firstToWin_57 (k_X3_firstToWin_11 n)) σ x1 x2 x4 (0 : Int32)
    else
      some (σ, (0 : Int32))
theorem e_X3_firstToWin_11  (n : Nat) (σ : zH) (x1 : Int32) (x2 : Int32) (x4 : Int32) (y0 : zAV) (y5 : zAV) : k_X3_firstToWin_11 (n + 1) σ x1 x2 x4 = zin zc0 (fun t => if t = 52 then some (gl_X3_firstToWin_52 (j_X3_firstToWin_52 (k_X3_firstToWin_11 n))) else if t = 57 then some (gl_X3_firstToWin_57 (j_X3_firstToWin_57 (k_X3_firstToWin_11 n))) else none) 0 krI b_X3_firstToWin 11 σ [y0, vI x1, vI x2, vR 0 1, vI x4, y5] [] := by
  rw [k_X3_firstToWin_11]
  refine Eq.symm ((zin_b (es := q_X3_firstToWin_11) rfl).trans ?_)
  refine (t_X3_firstToWin_11 _ _ _ _ _ _ _).trans ?_
  refine x_icmp.trans (pif_ge ?_ ?_)
  · refine (zrun_b (es := q_X3_firstToWin_84) rfl rfl).trans ?_
    refine (t_X3_firstToWin_84 _ _ _ _ _ _ _ _ _).trans ?_
    exact x_iret
  · refine (t_X3_firstToWin_20 _ _ _ _ _ _ _).trans ?_
    refine (x_iald (N := 12) rfl rfl).trans (pix fun _ => ?_)
    refine (t_X3_firstToWin_27 _ _ _ _ _ _ _ _).trans ?_
    refine (x_iald (N := 12) rfl rfl).trans (pix fun _ => ?_)
    refine x_icmp.trans (pif_eq ?_ ?_)
    · exact (zrun_c rfl).trans (glr_X3_firstToWin_52 _ _ _ _ _ _ _)
    · refine (t_X3_firstToWin_36 _ _ _ _ _ _ _).trans ?_
      refine (x_iald (N := 12) rfl rfl).trans (pix fun _ => ?_)
      refine (t_X3_firstToWin_43 _ _ _ _ _ _ _ _).trans ?_
      refine (x_iald (N := 12) rfl rfl).trans (pix fun _ => ?_)
      refine x_icmp.trans (pif_ne ?_ ?_)
      · refine (zrun_b (es := q_X3_firstToWin_56) rfl rfl).trans ?_
        refine (t_X3_firstToWin_56 _ _ _ _ _ _ _ _).trans ?_
        refine x_cut.trans ?_
        exact (zrun_c rfl).trans (glr_X3_firstToWin_57 _ _ _ _ _ _ _ _)
      · refine x_cut.trans ?_
        exact (zrun_c rfl).trans (glr_X3_firstToWin_52 _ _ _ _ _ _ _)
theorem s_X3_firstToWin_11 {X : zX} (hX : zHX X)   : ∀ n σ L st r, gl_X3_firstToWin_11 (k_X3_firstToWin_11 n) σ L st = some r → zGW X 28 krI 11 σ L st r := by
  intro n
  induction n with
  | zero =>
    intro σ L st r h
    unfold gl_X3_firstToWin_11 at h
    split at h <;> cases h
  | succ n ih =>
    intro σ L st r h
    unfold gl_X3_firstToWin_11 at h
    split at h
    · exact zin_ok (hy_X3_firstToWin hX) bk_X3_firstToWin (fun t f hf => by
      by_cases e52 : t = 52
      · rw [if_pos e52] at hf; subst e52; cases hf; exact (s_X3_firstToWin_52 hX ih)
      rw [if_neg e52] at hf
      by_cases e57 : t = 57
      · rw [if_pos e57] at hf; subst e57; cases hf; exact (s_X3_firstToWin_57 hX ih)
      rw [if_neg e57] at hf
      cases hf) ((e_X3_firstToWin_11 _ _ _ _ _ _ _).symm.trans h)
    · cases h
noncomputable def d_X3_firstToWin (σ : zH) (xa1 : Int32) (xa2 : Int32) : Option (zH × Int32) :=
  (k_X3_firstToWin_11 zN) σ xa1 xa2 (0 : Int32)
theorem e_X3_firstToWin (σ : zH) (xa1 : Int32) (xa2 : Int32) : d_X3_firstToWin σ xa1 xa2 = zin zc0 (fun t => if t = 11 then some (gl_X3_firstToWin_11 (k_X3_firstToWin_11 zN)) else none) 0 krI b_X3_firstToWin 0 σ [vR 3 0, vI xa1, vI xa2, vU, vU, vU] [] := by
  unfold d_X3_firstToWin
  refine Eq.symm ((zin_b (es := q_X3_firstToWin_0) rfl).trans ?_)
  refine (t_X3_firstToWin_0 _ _ _ _ _ _ _ _).trans ?_
  refine x_cut.trans ?_
  exact (zrun_c rfl).trans (glr_X3_firstToWin_11 _ _ _ _ _ _ _)
noncomputable def g_X3_firstToWin {ρ : Type} (σ : zH) (av : List zAV) (q : zH → zAV → Option ρ) : Option ρ := match av with
  | [.inr (.inr (.inl (3, 0))), .inl xa1, .inl xa2] => (d_X3_firstToWin σ xa1 xa2).bind fun p => q p.1 (vI p.2)
  | _ => none
theorem gr_X3_firstToWin {ρ : Type} (σ : zH) (xa1 : Int32) (xa2 : Int32) (q : zH → zAV → Option ρ) : g_X3_firstToWin σ [vR 3 0, vI xa1, vI xa2] q = (d_X3_firstToWin σ xa1 xa2).bind fun p => q p.1 (vI p.2) := rfl
theorem c_X3_firstToWin {ρ : Type} {X : zX} (hX : zHX X) {σ : zH} {av : List zAV} {q : zH → zAV → Option ρ} {r : ρ} (h : g_X3_firstToWin σ av q = some r) (hv : ∀ a ∈ av, zval X a) : zcon X 28 σ av q r := by
  unfold g_X3_firstToWin at h
  split at h
  · exact zcon_I (n := 28) (ml := 6) (rc := 0) (st := 0) (kd := 3) (np := 2) (by decide +kernel) (by decide) ⟨_, _, rfl, rfl⟩ (Nat.le_of_ble_eq_true rfl) hv h (fun y h1 => (zin_ok (hy_X3_firstToWin hX) bk_X3_firstToWin (fun t f hf => by
      by_cases e11 : t = 11
      · rw [if_pos e11] at hf; subst e11; cases hf; exact ((fun σ L st r h => s_X3_firstToWin_11 hX  zN σ L st r h))
      rw [if_neg e11] at hf
      cases hf) ((e_X3_firstToWin _ _ _).symm.trans h1)))
  · cases h
/-! SleepWaves$Gossip.mutinyOn(II)I -/
def q_X3_mutinyOn_0 : List zEnt := zE 0 (.iload_n 1) 1 :: zE 1 (.istore_n 3) 1 :: zEk 2 (.iconst 0) 1 0 :: zE 3 (.istore 4) 2 :: [zE 5 .nop 0]
def q_X3_mutinyOn_48 : List zEnt := zEa 48 (.goto (-43)) 3 5 :: []
def q_X3_mutinyOn_45 : List zEnt := zEk 45 (.iinc 4 1) 3 1 :: q_X3_mutinyOn_48
def q_X3_mutinyOn_43 : List zEnt := zE 43 .ior 1 :: zE 44 (.istore_n 3) 1 :: q_X3_mutinyOn_45
def q_X3_mutinyOn_40 : List zEnt := zEc 40 (.invokevirtual 55) 3 28 3 105 0 :: q_X3_mutinyOn_43
def q_X3_mutinyOn_31 : List zEnt := zE 31 (.iload_n 3) 1 :: zE 32 (.aload_n 0) 1 :: zE 33 (.iload 4) 2 :: zE 35 (.iload_n 2) 1 :: zE 36 (.iload_n 3) 1 :: zEk 37 (.iconst (-1)) 1 (-1) :: zE 38 .ixor 1 :: zE 39 .iand 1 :: q_X3_mutinyOn_40
def q_X3_mutinyOn_28 : List zEnt := zEa 28 (.ifCond .eq 17) 3 45 :: q_X3_mutinyOn_31
def q_X3_mutinyOn_20 : List zEnt := zE 20 (.iload_n 1) 1 :: zE 21 (.iload_n 2) 1 :: zE 22 .iand 1 :: zE 23 (.iload 4) 2 :: zE 25 .ishr 1 :: zEk 26 (.iconst 1) 1 1 :: zE 27 .iand 1 :: q_X3_mutinyOn_28
def q_X3_mutinyOn_17 : List zEnt := zEa 17 (.if_icmp .ge 34) 3 51 :: q_X3_mutinyOn_20
def q_X3_mutinyOn_5 : List zEnt := zE 5 (.iload 4) 2 :: zE 7 (.aload_n 0) 1 :: zEf 8 (.getfield 22) 3 3 0 133 (2, 8, 0) :: zEf 11 (.getfield 41) 3 8 0 85 (1, 0, 1) :: zEf 14 (.getfield 51) 3 0 0 32 (0, 0, 0) :: q_X3_mutinyOn_17
def q_X3_mutinyOn_52 : List zEnt := zE 52 .ireturn 1 :: []
def q_X3_mutinyOn_51 : List zEnt := zE 51 (.iload_n 3) 1 :: q_X3_mutinyOn_52
def b_X3_mutinyOn : List (Nat × List zEnt) := [(0, q_X3_mutinyOn_0), (5, q_X3_mutinyOn_5), (45, q_X3_mutinyOn_45), (51, q_X3_mutinyOn_51)]
theorem bk_X3_mutinyOn : zchB 27 b_X3_mutinyOn = true := by decide +kernel
noncomputable def cc_X3_mutinyOn {ρ : Type} : Nat → zH → List zAV → (zH → zAV → Option ρ) → Option ρ := fun n σ av q => if n = 28 then g_X3_firstToWin σ av q else none
theorem cs_X3_mutinyOn {ρ : Type} {X : zX} (hX : zHX X) : zCS X (cc_X3_mutinyOn (ρ := ρ)) := by
  intro n σ av q r h hv
  unfold cc_X3_mutinyOn at h
  by_cases e_X3_firstToWin : n = 28
  · rw [if_pos e_X3_firstToWin] at h
    subst e_X3_firstToWin
    exact c_X3_firstToWin hX h hv
  rw [if_neg e_X3_firstToWin] at h
  cases h
theorem cl_X3_mutinyOn_X3_firstToWin {ρ : Type} (σ : zH) (av : List zAV) (q : zH → zAV → Option ρ) : cc_X3_mutinyOn 28 σ av q = g_X3_firstToWin σ av q := rfl
theorem hy_X3_mutinyOn {ρ : Type} {X : zX} (hX : zHX X) : zHY X 27 (cc_X3_mutinyOn (ρ := ρ)) := zHX.hY hX (cs_X3_mutinyOn hX) (zmok_all 27 (by decide))
def gl_X3_mutinyOn_5 {ρ : Type} (f : zH → Int32 → Int32 → Int32 → Int32 → Option ρ) (σ : zH) (L st : List zAV) : Option ρ := match L, st with
  | [.inr (.inr (.inl (3, 0))), .inl x1, .inl x2, .inl x3, .inl x4], [] => f σ x1 x2 x3 x4
  | _, _ => none
theorem glr_X3_mutinyOn_5 {ρ : Type} (f : zH → Int32 → Int32 → Int32 → Int32 → Option ρ) (σ : zH) (x1 : Int32) (x2 : Int32) (x3 : Int32) (x4 : Int32)  : gl_X3_mutinyOn_5 f σ [vR 3 0, vI x1, vI x2, vI x3, vI x4] [] = f σ x1 x2 x3 x4 := rfl
theorem t_X3_mutinyOn_0 {G : Nat → zH → List zAV → List zAV → Option (zH × Int32)} (es : List zEnt) (σ : zH) (x1 : Int32) (x2 : Int32) (y3 : zAV) (y4 : zAV) (w2 : Int32) : zev cc_X3_mutinyOn G 0 krI (zE 0 (.iload_n 1) 1 :: zE 1 (.istore_n 3) 1 :: zEk 2 (.iconst 0) 1 w2 :: zE 3 (.istore 4) 2 :: es) σ [vR 3 0, vI x1, vI x2, y3, y4] [] = zev cc_X3_mutinyOn G 0 krI es σ [vR 3 0, vI x1, vI x2, vI x1, vI w2] [] := rfl
theorem t_X3_mutinyOn_5 {G : Nat → zH → List zAV → List zAV → Option (zH × Int32)} (es : List zEnt) (σ : zH) (x1 : Int32) (x2 : Int32) (x3 : Int32) (x4 : Int32)   : zev cc_X3_mutinyOn G 0 krI (zE 5 (.iload 4) 2 :: zE 7 (.aload_n 0) 1 :: zEf 8 (.getfield 22) 3 3 0 133 (2, 8, 0) :: zEf 11 (.getfield 41) 3 8 0 85 (1, 0, 1) :: zEf 14 (.getfield 51) 3 0 0 32 (0, 0, 0) :: es) σ [vR 3 0, vI x1, vI x2, vI x3, vI x4] [] = zev cc_X3_mutinyOn G 0 krI es σ [vR 3 0, vI x1, vI x2, vI x3, vI x4] [vI (σ.1 0 (0 + 1) 0), vI x4] := rfl
theorem t_X3_mutinyOn_20 {G : Nat → zH → List zAV → List zAV → Option (zH × Int32)} (es : List zEnt) (σ : zH) (x1 : Int32) (x2 : Int32) (x3 : Int32) (x4 : Int32)  (w26 : Int32) : zev cc_X3_mutinyOn G 0 krI (zE 20 (.iload_n 1) 1 :: zE 21 (.iload_n 2) 1 :: zE 22 .iand 1 :: zE 23 (.iload 4) 2 :: zE 25 .ishr 1 :: zEk 26 (.iconst 1) 1 w26 :: zE 27 .iand 1 :: es) σ [vR 3 0, vI x1, vI x2, vI x3, vI x4] [] = zev cc_X3_mutinyOn G 0 krI es σ [vR 3 0, vI x1, vI x2, vI x3, vI x4] [vI (((x1 &&& x2) >>> (x4 &&& 31)) &&& w26)] := rfl
theorem t_X3_mutinyOn_31 {G : Nat → zH → List zAV → List zAV → Option (zH × Int32)} (es : List zEnt) (σ : zH) (x1 : Int32) (x2 : Int32) (x3 : Int32) (x4 : Int32)  (w37 : Int32) : zev cc_X3_mutinyOn G 0 krI (zE 31 (.iload_n 3) 1 :: zE 32 (.aload_n 0) 1 :: zE 33 (.iload 4) 2 :: zE 35 (.iload_n 2) 1 :: zE 36 (.iload_n 3) 1 :: zEk 37 (.iconst (-1)) 1 w37 :: zE 38 .ixor 1 :: zE 39 .iand 1 :: es) σ [vR 3 0, vI x1, vI x2, vI x3, vI x4] [] = zev cc_X3_mutinyOn G 0 krI es σ [vR 3 0, vI x1, vI x2, vI x3, vI x4] [vI (x2 &&& (x3 ^^^ w37)), vI x4, vR 3 0, vI x3] := rfl
theorem t_X3_mutinyOn_43 {G : Nat → zH → List zAV → List zAV → Option (zH × Int32)} (es : List zEnt) (σ : zH) (x1 : Int32) (x2 : Int32) (x4 : Int32) (xs0 : Int32) (xs1 : Int32) (y3 : zAV) (w45 : Int32) : zev cc_X3_mutinyOn G 0 krI (zE 43 .ior 1 :: zE 44 (.istore_n 3) 1 :: zEk 45 (.iinc 4 1) 3 w45 :: es) σ [vR 3 0, vI x1, vI x2, y3, vI x4] [vI xs1, vI xs0] = zev cc_X3_mutinyOn G 0 krI es σ [vR 3 0, vI x1, vI x2, vI (xs0 ||| xs1), vI (x4 + w45)] [] := rfl
theorem t_X3_mutinyOn_45 {G : Nat → zH → List zAV → List zAV → Option (zH × Int32)} (es : List zEnt) (σ : zH) (x1 : Int32) (x2 : Int32) (x3 : Int32) (x4 : Int32)  (w45 : Int32) : zev cc_X3_mutinyOn G 0 krI (zEk 45 (.iinc 4 1) 3 w45 :: es) σ [vR 3 0, vI x1, vI x2, vI x3, vI x4] [] = zev cc_X3_mutinyOn G 0 krI es σ [vR 3 0, vI x1, vI x2, vI x3, vI (x4 + w45)] [] := rfl
theorem t_X3_mutinyOn_51 {G : Nat → zH → List zAV → List zAV → Option (zH × Int32)} (es : List zEnt) (σ : zH) (x3 : Int32) (y0 : zAV) (y1 : zAV) (y2 : zAV) (y4 : zAV)  : zev cc_X3_mutinyOn G 0 krI (zE 51 (.iload_n 3) 1 :: es) σ [y0, y1, y2, vI x3, y4] [] = zev cc_X3_mutinyOn G 0 krI es σ [y0, y1, y2, vI x3, y4] [vI x3] := rfl
noncomputable def k_X3_mutinyOn_5  : Nat → zH → Int32 → Int32 → Int32 → Int32 → Option (zH × Int32)
  | 0, _, _, _, _, _ => none
  | n + 1, σ, x1, x2, x3, x4 =>
    if x4 < (σ.1 0 (0 + 1) 0) then
      if (((x1 &&& x2) >>> (x4 &&& 31)) &&& (1 : Int32)) = 0 then
        (k_X3_mutinyOn_5 n) σ x1 x2 x3 (x4 + (1 : Int32))
      else
        (d_X3_firstToWin σ x4 (x2 &&& (x3 ^^^ (-1 : Int32)))).bind fun p1 =>
        (k_X3_mutinyOn_5 n) p1.1 x1 x2 (x3 ||| p1.2) (x4 + (1 : Int32))
    else
      some (σ, x3)
theorem e_X3_mutinyOn_5  (n : Nat) (σ : zH) (x1 : Int32) (x2 : Int32) (x3 : Int32) (x4 : Int32)  : k_X3_mutinyOn_5 (n + 1) σ x1 x2 x3 x4 = zin cc_X3_mutinyOn (fun t => if t = 5 then some (gl_X3_mutinyOn_5 (k_X3_mutinyOn_5 n)) else none) 0 krI b_X3_mutinyOn 5 σ [vR 3 0, vI x1, vI x2, vI x3, vI x4] [] := by
  rw [k_X3_mutinyOn_5]
  refine Eq.symm ((zin_b (es := q_X3_mutinyOn_5) rfl).trans ?_)
  refine (t_X3_mutinyOn_5 _ _ _ _ _ _).trans ?_
  refine x_icmp.trans (pif_ge ?_ ?_)
  · refine (zrun_b (es := q_X3_mutinyOn_51) rfl rfl).trans ?_
    refine (t_X3_mutinyOn_51 _ _ _ _ _ _ _).trans ?_
    exact x_iret
  · refine (t_X3_mutinyOn_20 _ _ _ _ _ _ _).trans ?_
    refine x_if.trans (pif_eq ?_ ?_)
    · refine (zrun_b (es := q_X3_mutinyOn_45) rfl rfl).trans ?_
      refine (t_X3_mutinyOn_45 _ _ _ _ _ _ _).trans ?_
      refine x_goto.trans ?_
      exact (zrun_c rfl).trans (glr_X3_mutinyOn_5 _ _ _ _ _ _)
    · refine (t_X3_mutinyOn_31 _ _ _ _ _ _ _).trans ?_
      refine (x_callV rfl rfl rfl rfl).trans ((cl_X3_mutinyOn_X3_firstToWin _ _ _).trans ((gr_X3_firstToWin _ _ _ _).trans (pbd fun _ => ?_)))
      refine (t_X3_mutinyOn_43 _ _ _ _ _ _ _ _ _).trans ?_
      refine x_goto.trans ?_
      exact (zrun_c rfl).trans (glr_X3_mutinyOn_5 _ _ _ _ _ _)
theorem s_X3_mutinyOn_5 {X : zX} (hX : zHX X)   : ∀ n σ L st r, gl_X3_mutinyOn_5 (k_X3_mutinyOn_5 n) σ L st = some r → zGW X 27 krI 5 σ L st r := by
  intro n
  induction n with
  | zero =>
    intro σ L st r h
    unfold gl_X3_mutinyOn_5 at h
    split at h <;> cases h
  | succ n ih =>
    intro σ L st r h
    unfold gl_X3_mutinyOn_5 at h
    split at h
    · exact zin_ok (hy_X3_mutinyOn hX) bk_X3_mutinyOn (fun t f hf => by
      by_cases e5 : t = 5
      · rw [if_pos e5] at hf; subst e5; cases hf; exact ih
      rw [if_neg e5] at hf
      cases hf) ((e_X3_mutinyOn_5 _ _ _ _ _ _).symm.trans h)
    · cases h
noncomputable def d_X3_mutinyOn (σ : zH) (xa1 : Int32) (xa2 : Int32) : Option (zH × Int32) :=
  (k_X3_mutinyOn_5 zN) σ xa1 xa2 xa1 (0 : Int32)
theorem e_X3_mutinyOn (σ : zH) (xa1 : Int32) (xa2 : Int32) : d_X3_mutinyOn σ xa1 xa2 = zin cc_X3_mutinyOn (fun t => if t = 5 then some (gl_X3_mutinyOn_5 (k_X3_mutinyOn_5 zN)) else none) 0 krI b_X3_mutinyOn 0 σ [vR 3 0, vI xa1, vI xa2, vU, vU] [] := by
  unfold d_X3_mutinyOn
  refine Eq.symm ((zin_b (es := q_X3_mutinyOn_0) rfl).trans ?_)
  refine (t_X3_mutinyOn_0 _ _ _ _ _ _ _).trans ?_
  refine x_cut.trans ?_
  exact (zrun_c rfl).trans (glr_X3_mutinyOn_5 _ _ _ _ _ _)
noncomputable def g_X3_mutinyOn {ρ : Type} (σ : zH) (av : List zAV) (q : zH → zAV → Option ρ) : Option ρ := match av with
  | [.inr (.inr (.inl (3, 0))), .inl xa1, .inl xa2] => (d_X3_mutinyOn σ xa1 xa2).bind fun p => q p.1 (vI p.2)
  | _ => none
theorem gr_X3_mutinyOn {ρ : Type} (σ : zH) (xa1 : Int32) (xa2 : Int32) (q : zH → zAV → Option ρ) : g_X3_mutinyOn σ [vR 3 0, vI xa1, vI xa2] q = (d_X3_mutinyOn σ xa1 xa2).bind fun p => q p.1 (vI p.2) := rfl
theorem c_X3_mutinyOn {ρ : Type} {X : zX} (hX : zHX X) {σ : zH} {av : List zAV} {q : zH → zAV → Option ρ} {r : ρ} (h : g_X3_mutinyOn σ av q = some r) (hv : ∀ a ∈ av, zval X a) : zcon X 27 σ av q r := by
  unfold g_X3_mutinyOn at h
  split at h
  · exact zcon_I (n := 27) (ml := 5) (rc := 0) (st := 0) (kd := 3) (np := 2) (by decide +kernel) (by decide) ⟨_, _, rfl, rfl⟩ (Nat.le_of_ble_eq_true rfl) hv h (fun y h1 => (zin_ok (hy_X3_mutinyOn hX) bk_X3_mutinyOn (fun t f hf => by
      by_cases e5 : t = 5
      · rw [if_pos e5] at hf; subst e5; cases hf; exact ((fun σ L st r h => s_X3_mutinyOn_5 hX  zN σ L st r h))
      rw [if_neg e5] at hf
      cases hf) ((e_X3_mutinyOn _ _ _).symm.trans h1)))
  · cases h
/-! SleepWaves$Gossip.menOfMutiny(III)I -/
def q_X3_menOfMutiny_0 : List zEnt := zEk 0 (.iconst 1) 1 1 :: zE 1 (.iload_n 1) 1 :: zE 2 .ishl 1 :: zE 3 (.istore 4) 2 :: zE 5 (.iload_n 2) 1 :: zE 6 (.istore 5) 2 :: [zE 8 .nop 0]
def q_X3_menOfMutiny_42 : List zEnt := zEa 42 (.goto (-34)) 3 8 :: []
def q_X3_menOfMutiny_37 : List zEnt := zE 37 (.istore 4) 2 :: zEk 39 (.iinc 5 1) 3 1 :: q_X3_menOfMutiny_42
def q_X3_menOfMutiny_34 : List zEnt := zEc 34 (.invokevirtual 37) 3 27 3 104 0 :: q_X3_menOfMutiny_37
def q_X3_menOfMutiny_33 : List zEnt := zE 33 .iaload 1 :: q_X3_menOfMutiny_34
def q_X3_menOfMutiny_24 : List zEnt := zE 24 (.aload_n 0) 1 :: zE 25 (.iload 4) 2 :: zE 27 (.aload_n 0) 1 :: zEf 28 (.getfield 18) 3 3 2 135 (2, 23, 0) :: zE 31 (.iload 5) 2 :: q_X3_menOfMutiny_33
def q_X3_menOfMutiny_21 : List zEnt := zEa 21 (.if_icmp .ge 24) 3 45 :: q_X3_menOfMutiny_24
def q_X3_menOfMutiny_16 : List zEnt := zE 16 (.iload 5) 2 :: zEk 18 (.sipush 192) 3 192 :: q_X3_menOfMutiny_21
def q_X3_menOfMutiny_13 : List zEnt := zEa 13 (.if_icmp .ge 32) 3 45 :: q_X3_menOfMutiny_16
def q_X3_menOfMutiny_8 : List zEnt := zE 8 (.iload 5) 2 :: zE 10 (.iload_n 2) 1 :: zE 11 (.iload_n 3) 1 :: zE 12 .iadd 1 :: q_X3_menOfMutiny_13
def q_X3_menOfMutiny_57 : List zEnt := zE 57 .ireturn 1 :: []
def q_X3_menOfMutiny_54 : List zEnt := zEc 54 (.invokevirtual 45) 3 4 2 106 0 :: q_X3_menOfMutiny_57
def q_X3_menOfMutiny_45 : List zEnt := zE 45 (.aload_n 0) 1 :: zEf 46 (.getfield 22) 3 3 0 133 (2, 8, 0) :: zEf 49 (.getfield 41) 3 8 0 85 (1, 0, 1) :: zE 52 (.iload 4) 2 :: q_X3_menOfMutiny_54
def b_X3_menOfMutiny : List (Nat × List zEnt) := [(0, q_X3_menOfMutiny_0), (8, q_X3_menOfMutiny_8), (45, q_X3_menOfMutiny_45)]
theorem bk_X3_menOfMutiny : zchB 26 b_X3_menOfMutiny = true := by decide +kernel
noncomputable def cc_X3_menOfMutiny {ρ : Type} : Nat → zH → List zAV → (zH → zAV → Option ρ) → Option ρ := fun n σ av q => if n = 27 then g_X3_mutinyOn σ av q else if n = 4 then g_X0_menOf σ av q else none
theorem cs_X3_menOfMutiny {ρ : Type} {X : zX} (hX : zHX X) : zCS X (cc_X3_menOfMutiny (ρ := ρ)) := by
  intro n σ av q r h hv
  unfold cc_X3_menOfMutiny at h
  by_cases e_X3_mutinyOn : n = 27
  · rw [if_pos e_X3_mutinyOn] at h
    subst e_X3_mutinyOn
    exact c_X3_mutinyOn hX h hv
  rw [if_neg e_X3_mutinyOn] at h
  by_cases e_X0_menOf : n = 4
  · rw [if_pos e_X0_menOf] at h
    subst e_X0_menOf
    exact c_X0_menOf hX h hv
  rw [if_neg e_X0_menOf] at h
  cases h
theorem cl_X3_menOfMutiny_X3_mutinyOn {ρ : Type} (σ : zH) (av : List zAV) (q : zH → zAV → Option ρ) : cc_X3_menOfMutiny 27 σ av q = g_X3_mutinyOn σ av q := rfl
theorem cl_X3_menOfMutiny_X0_menOf {ρ : Type} (σ : zH) (av : List zAV) (q : zH → zAV → Option ρ) : cc_X3_menOfMutiny 4 σ av q = g_X0_menOf σ av q := rfl
theorem hy_X3_menOfMutiny {ρ : Type} {X : zX} (hX : zHX X) : zHY X 26 (cc_X3_menOfMutiny (ρ := ρ)) := zHX.hY hX (cs_X3_menOfMutiny hX) (zmok_all 26 (by decide))
def gl_X3_menOfMutiny_8 {ρ : Type} (f : zH → Int32 → Int32 → Int32 → Int32 → Option ρ) (σ : zH) (L st : List zAV) : Option ρ := match L, st with
  | [.inr (.inr (.inl (3, 0))), _, .inl x2, .inl x3, .inl x4, .inl x5], [] => f σ x2 x3 x4 x5
  | _, _ => none
def gl_X3_menOfMutiny_45 {ρ : Type} (f : zH → Int32 → Option ρ) (σ : zH) (L st : List zAV) : Option ρ := match L, st with
  | [.inr (.inr (.inl (3, 0))), _, _, _, .inl x4, _], [] => f σ x4
  | _, _ => none
theorem glr_X3_menOfMutiny_8 {ρ : Type} (f : zH → Int32 → Int32 → Int32 → Int32 → Option ρ) (σ : zH) (x2 : Int32) (x3 : Int32) (x4 : Int32) (x5 : Int32) (y1 : zAV) : gl_X3_menOfMutiny_8 f σ [vR 3 0, y1, vI x2, vI x3, vI x4, vI x5] [] = f σ x2 x3 x4 x5 := rfl
theorem glr_X3_menOfMutiny_45 {ρ : Type} (f : zH → Int32 → Option ρ) (σ : zH) (x4 : Int32) (y1 : zAV) (y2 : zAV) (y3 : zAV) (y5 : zAV) : gl_X3_menOfMutiny_45 f σ [vR 3 0, y1, y2, y3, vI x4, y5] [] = f σ x4 := rfl
theorem t_X3_menOfMutiny_0 {G : Nat → zH → List zAV → List zAV → Option (zH × Int32)} (es : List zEnt) (σ : zH) (x1 : Int32) (x2 : Int32) (x3 : Int32) (y4 : zAV) (y5 : zAV) (w0 : Int32) : zev cc_X3_menOfMutiny G 0 krI (zEk 0 (.iconst 1) 1 w0 :: zE 1 (.iload_n 1) 1 :: zE 2 .ishl 1 :: zE 3 (.istore 4) 2 :: zE 5 (.iload_n 2) 1 :: zE 6 (.istore 5) 2 :: es) σ [vR 3 0, vI x1, vI x2, vI x3, y4, y5] [] = zev cc_X3_menOfMutiny G 0 krI es σ [vR 3 0, vI x1, vI x2, vI x3, vI (w0 <<< (x1 &&& 31)), vI x2] [] := rfl
theorem t_X3_menOfMutiny_8 {G : Nat → zH → List zAV → List zAV → Option (zH × Int32)} (es : List zEnt) (σ : zH) (x2 : Int32) (x3 : Int32) (x4 : Int32) (x5 : Int32) (y1 : zAV)  : zev cc_X3_menOfMutiny G 0 krI (zE 8 (.iload 5) 2 :: zE 10 (.iload_n 2) 1 :: zE 11 (.iload_n 3) 1 :: zE 12 .iadd 1 :: es) σ [vR 3 0, y1, vI x2, vI x3, vI x4, vI x5] [] = zev cc_X3_menOfMutiny G 0 krI es σ [vR 3 0, y1, vI x2, vI x3, vI x4, vI x5] [vI (x2 + x3), vI x5] := rfl
theorem t_X3_menOfMutiny_16 {G : Nat → zH → List zAV → List zAV → Option (zH × Int32)} (es : List zEnt) (σ : zH) (x2 : Int32) (x3 : Int32) (x4 : Int32) (x5 : Int32) (y1 : zAV) (w18 : Int32) : zev cc_X3_menOfMutiny G 0 krI (zE 16 (.iload 5) 2 :: zEk 18 (.sipush 192) 3 w18 :: es) σ [vR 3 0, y1, vI x2, vI x3, vI x4, vI x5] [] = zev cc_X3_menOfMutiny G 0 krI es σ [vR 3 0, y1, vI x2, vI x3, vI x4, vI x5] [vI w18, vI x5] := rfl
theorem t_X3_menOfMutiny_24 {G : Nat → zH → List zAV → List zAV → Option (zH × Int32)} (es : List zEnt) (σ : zH) (x2 : Int32) (x3 : Int32) (x4 : Int32) (x5 : Int32) (y1 : zAV)  : zev cc_X3_menOfMutiny G 0 krI (zE 24 (.aload_n 0) 1 :: zE 25 (.iload 4) 2 :: zE 27 (.aload_n 0) 1 :: zEf 28 (.getfield 18) 3 3 2 135 (2, 23, 0) :: zE 31 (.iload 5) 2 :: es) σ [vR 3 0, y1, vI x2, vI x3, vI x4, vI x5] [] = zev cc_X3_menOfMutiny G 0 krI es σ [vR 3 0, y1, vI x2, vI x3, vI x4, vI x5] [vI x5, vR 23 0, vI x4, vR 3 0] := rfl
theorem t_X3_menOfMutiny_37 {G : Nat → zH → List zAV → List zAV → Option (zH × Int32)} (es : List zEnt) (σ : zH) (x2 : Int32) (x3 : Int32) (x5 : Int32) (xs0 : Int32) (y1 : zAV) (y4 : zAV) (w39 : Int32) : zev cc_X3_menOfMutiny G 0 krI (zE 37 (.istore 4) 2 :: zEk 39 (.iinc 5 1) 3 w39 :: es) σ [vR 3 0, y1, vI x2, vI x3, y4, vI x5] [vI xs0] = zev cc_X3_menOfMutiny G 0 krI es σ [vR 3 0, y1, vI x2, vI x3, vI xs0, vI (x5 + w39)] [] := rfl
theorem t_X3_menOfMutiny_45 {G : Nat → zH → List zAV → List zAV → Option (zH × Int32)} (es : List zEnt) (σ : zH) (x4 : Int32) (y1 : zAV) (y2 : zAV) (y3 : zAV) (y5 : zAV)  : zev cc_X3_menOfMutiny G 0 krI (zE 45 (.aload_n 0) 1 :: zEf 46 (.getfield 22) 3 3 0 133 (2, 8, 0) :: zEf 49 (.getfield 41) 3 8 0 85 (1, 0, 1) :: zE 52 (.iload 4) 2 :: es) σ [vR 3 0, y1, y2, y3, vI x4, y5] [] = zev cc_X3_menOfMutiny G 0 krI es σ [vR 3 0, y1, y2, y3, vI x4, y5] [vI x4, vR 0 (0 + 1)] := rfl
noncomputable def k_X3_menOfMutiny_8 (c45 : zH → Int32 → Option (zH × Int32)) : Nat → zH → Int32 → Int32 → Int32 → Int32 → Option (zH × Int32)
  | 0, _, _, _, _, _ => none
  | n + 1, σ, x2, x3, x4, x5 =>
    if x5 < (x2 + x3) then
      if x5 < (192 : Int32) then
        ix x5 192 fun j1 =>
        (d_X3_mutinyOn σ x4 (σ.1 23 0 j1)).bind fun p2 =>
        (k_X3_menOfMutiny_8 c45 n) p2.1 x2 x3 p2.2 (x5 + (1 : Int32))
      else
        c45 σ x4
    else
      c45 σ x4
theorem e_X3_menOfMutiny_8 (c45 : zH → Int32 → Option (zH × Int32)) (n : Nat) (σ : zH) (x2 : Int32) (x3 : Int32) (x4 : Int32) (x5 : Int32) (y1 : zAV) : k_X3_menOfMutiny_8 c45 (n + 1) σ x2 x3 x4 x5 = zin cc_X3_menOfMutiny (fun t => if t = 8 then some (gl_X3_menOfMutiny_8 (k_X3_menOfMutiny_8 c45 n)) else if t = 45 then some (gl_X3_menOfMutiny_45 c45) else none) 0 krI b_X3_menOfMutiny 8 σ [vR 3 0, y1, vI x2, vI x3, vI x4, vI x5] [] := by
  rw [k_X3_menOfMutiny_8]
  refine Eq.symm ((zin_b (es := q_X3_menOfMutiny_8) rfl).trans ?_)
  refine (t_X3_menOfMutiny_8 _ _ _ _ _ _ _).trans ?_
  refine x_icmp.trans (pif_ge ?_ ?_)
  · exact (zrun_c rfl).trans (glr_X3_menOfMutiny_45 _ _ _ _ _ _ _)
  · refine (t_X3_menOfMutiny_16 _ _ _ _ _ _ _ _).trans ?_
    refine x_icmp.trans (pif_ge ?_ ?_)
    · exact (zrun_c rfl).trans (glr_X3_menOfMutiny_45 _ _ _ _ _ _ _)
    · refine (t_X3_menOfMutiny_24 _ _ _ _ _ _ _).trans ?_
      refine (x_iald (N := 192) rfl rfl).trans (pix fun _ => ?_)
      refine (x_callV rfl rfl rfl rfl).trans ((cl_X3_menOfMutiny_X3_mutinyOn _ _ _).trans ((gr_X3_mutinyOn _ _ _ _).trans (pbd fun _ => ?_)))
      refine (t_X3_menOfMutiny_37 _ _ _ _ _ _ _ _ _).trans ?_
      refine x_goto.trans ?_
      exact (zrun_c rfl).trans (glr_X3_menOfMutiny_8 _ _ _ _ _ _ _)
theorem s_X3_menOfMutiny_8 {X : zX} (hX : zHX X) {c45 : zH → Int32 → Option (zH × Int32)} (h45 : ∀ σ L st r, gl_X3_menOfMutiny_45 c45 σ L st = some r → zGW X 26 krI 45 σ L st r) : ∀ n σ L st r, gl_X3_menOfMutiny_8 (k_X3_menOfMutiny_8 c45 n) σ L st = some r → zGW X 26 krI 8 σ L st r := by
  intro n
  induction n with
  | zero =>
    intro σ L st r h
    unfold gl_X3_menOfMutiny_8 at h
    split at h <;> cases h
  | succ n ih =>
    intro σ L st r h
    unfold gl_X3_menOfMutiny_8 at h
    split at h
    · exact zin_ok (hy_X3_menOfMutiny hX) bk_X3_menOfMutiny (fun t f hf => by
      by_cases e8 : t = 8
      · rw [if_pos e8] at hf; subst e8; cases hf; exact ih
      rw [if_neg e8] at hf
      by_cases e45 : t = 45
      · rw [if_pos e45] at hf; subst e45; cases hf; exact h45
      rw [if_neg e45] at hf
      cases hf) ((e_X3_menOfMutiny_8 _ _ _ _ _ _ _ _).symm.trans h)
    · cases h
noncomputable def j_X3_menOfMutiny_45  (σ : zH) (x4 : Int32) : Option (zH × Int32) :=
  (d_X0_menOf σ (0 + 1) x4).bind fun p1 =>
  some (p1.1, p1.2)
theorem e_X3_menOfMutiny_45  (σ : zH) (x4 : Int32) (y1 : zAV) (y2 : zAV) (y3 : zAV) (y5 : zAV) : j_X3_menOfMutiny_45 σ x4 = zin cc_X3_menOfMutiny (fun t => none) 0 krI b_X3_menOfMutiny 45 σ [vR 3 0, y1, y2, y3, vI x4, y5] [] := by
  unfold j_X3_menOfMutiny_45
  refine Eq.symm ((zin_b (es := q_X3_menOfMutiny_45) rfl).trans ?_)
  refine (t_X3_menOfMutiny_45 _ _ _ _ _ _ _).trans ?_
  refine (x_callV rfl rfl rfl rfl).trans ((cl_X3_menOfMutiny_X0_menOf _ _ _).trans ((gr_X0_menOf _ _ _ _).trans (pbd fun _ => ?_)))
  exact x_iret
theorem s_X3_menOfMutiny_45 {X : zX} (hX : zHX X)   : ∀ σ L st r, gl_X3_menOfMutiny_45 j_X3_menOfMutiny_45 σ L st = some r → zGW X 26 krI 45 σ L st r := by
  intro σ L st r h
  unfold gl_X3_menOfMutiny_45 at h
  split at h
  · exact zin_ok (hy_X3_menOfMutiny hX) bk_X3_menOfMutiny (fun t f hf => by
    cases hf) ((e_X3_menOfMutiny_45 _ _ _ _ _ _).symm.trans h)
  · cases h
noncomputable def d_X3_menOfMutiny (σ : zH) (xa1 : Int32) (xa2 : Int32) (xa3 : Int32) : Option (zH × Int32) :=
  (k_X3_menOfMutiny_8 j_X3_menOfMutiny_45 zN) σ xa2 xa3 ((1 : Int32) <<< (xa1 &&& 31)) xa2
theorem e_X3_menOfMutiny (σ : zH) (xa1 : Int32) (xa2 : Int32) (xa3 : Int32) : d_X3_menOfMutiny σ xa1 xa2 xa3 = zin cc_X3_menOfMutiny (fun t => if t = 8 then some (gl_X3_menOfMutiny_8 (k_X3_menOfMutiny_8 j_X3_menOfMutiny_45 zN)) else none) 0 krI b_X3_menOfMutiny 0 σ [vR 3 0, vI xa1, vI xa2, vI xa3, vU, vU] [] := by
  unfold d_X3_menOfMutiny
  refine Eq.symm ((zin_b (es := q_X3_menOfMutiny_0) rfl).trans ?_)
  refine (t_X3_menOfMutiny_0 _ _ _ _ _ _ _ _).trans ?_
  refine x_cut.trans ?_
  exact (zrun_c rfl).trans (glr_X3_menOfMutiny_8 _ _ _ _ _ _ _)
noncomputable def g_X3_menOfMutiny {ρ : Type} (σ : zH) (av : List zAV) (q : zH → zAV → Option ρ) : Option ρ := match av with
  | [.inr (.inr (.inl (3, 0))), .inl xa1, .inl xa2, .inl xa3] => (d_X3_menOfMutiny σ xa1 xa2 xa3).bind fun p => q p.1 (vI p.2)
  | _ => none
theorem gr_X3_menOfMutiny {ρ : Type} (σ : zH) (xa1 : Int32) (xa2 : Int32) (xa3 : Int32) (q : zH → zAV → Option ρ) : g_X3_menOfMutiny σ [vR 3 0, vI xa1, vI xa2, vI xa3] q = (d_X3_menOfMutiny σ xa1 xa2 xa3).bind fun p => q p.1 (vI p.2) := rfl
theorem c_X3_menOfMutiny {ρ : Type} {X : zX} (hX : zHX X) {σ : zH} {av : List zAV} {q : zH → zAV → Option ρ} {r : ρ} (h : g_X3_menOfMutiny σ av q = some r) (hv : ∀ a ∈ av, zval X a) : zcon X 26 σ av q r := by
  unfold g_X3_menOfMutiny at h
  split at h
  · exact zcon_I (n := 26) (ml := 6) (rc := 0) (st := 0) (kd := 3) (np := 3) (by decide +kernel) (by decide) ⟨_, _, rfl, rfl⟩ (Nat.le_of_ble_eq_true rfl) hv h (fun y h1 => (zin_ok (hy_X3_menOfMutiny hX) bk_X3_menOfMutiny (fun t f hf => by
      by_cases e8 : t = 8
      · rw [if_pos e8] at hf; subst e8; cases hf; exact ((fun σ L st r h => s_X3_menOfMutiny_8 hX (s_X3_menOfMutiny_45 hX) zN σ L st r h))
      rw [if_neg e8] at hf
      cases hf) ((e_X3_menOfMutiny _ _ _ _).symm.trans h1)))
  · cases h
/-! SleepWaves$Gossip.alike([II)I -/
def q_X3_alike_0 : List zEnt := zEk 0 (.iconst 0) 1 0 :: zE 1 (.istore_n 3) 1 :: zEk 2 (.iconst 0) 1 0 :: zE 3 (.istore 4) 2 :: [zE 5 .nop 0]
def q_X3_alike_40 : List zEnt := zEa 40 (.goto (-35)) 3 5 :: []
def q_X3_alike_37 : List zEnt := zEk 37 (.iinc 4 1) 3 1 :: q_X3_alike_40
def q_X3_alike_30 : List zEnt := zE 30 (.iload_n 3) 1 :: zEk 31 (.iconst 1) 1 1 :: zE 32 (.iload 4) 2 :: zE 34 .ishl 1 :: zE 35 .ior 1 :: zE 36 (.istore_n 3) 1 :: q_X3_alike_37
def q_X3_alike_27 : List zEnt := zEa 27 (.if_icmp .ne 10) 3 37 :: q_X3_alike_30
def q_X3_alike_26 : List zEnt := zE 26 .iaload 1 :: q_X3_alike_27
def q_X3_alike_24 : List zEnt := zE 24 (.aload_n 1) 1 :: zE 25 (.iload_n 2) 1 :: q_X3_alike_26
def q_X3_alike_23 : List zEnt := zE 23 .iaload 1 :: q_X3_alike_24
def q_X3_alike_20 : List zEnt := zE 20 (.aload_n 1) 1 :: zE 21 (.iload 4) 2 :: q_X3_alike_23
def q_X3_alike_17 : List zEnt := zEa 17 (.if_icmp .ge 26) 3 43 :: q_X3_alike_20
def q_X3_alike_5 : List zEnt := zE 5 (.iload 4) 2 :: zE 7 (.aload_n 0) 1 :: zEf 8 (.getfield 22) 3 3 0 133 (2, 8, 0) :: zEf 11 (.getfield 41) 3 8 0 85 (1, 0, 1) :: zEf 14 (.getfield 51) 3 0 0 32 (0, 0, 0) :: q_X3_alike_17
def q_X3_alike_44 : List zEnt := zE 44 .ireturn 1 :: []
def q_X3_alike_43 : List zEnt := zE 43 (.iload_n 3) 1 :: q_X3_alike_44
def b_X3_alike : List (Nat × List zEnt) := [(0, q_X3_alike_0), (5, q_X3_alike_5), (37, q_X3_alike_37), (43, q_X3_alike_43)]
theorem bk_X3_alike : zchB 30 b_X3_alike = true := by decide +kernel
theorem hy_X3_alike {ρ : Type} {X : zX} (hX : zHX X) : zHY X 30 (zc0 (ρ := ρ)) := zHX.hY hX (zc0_ok X) (zmok_all 30 (by decide))
def gl_X3_alike_5 {ρ : Type} (f : zH → Nat → Nat → Int32 → Int32 → Int32 → Option ρ) (σ : zH) (L st : List zAV) : Option ρ := match L, st with
  | [.inr (.inr (.inl (3, 0))), .inr (.inr (.inl (kd1, i1))), .inl x2, .inl x3, .inl x4], [] => f σ kd1 i1 x2 x3 x4
  | _, _ => none
theorem glr_X3_alike_5 {ρ : Type} (f : zH → Nat → Nat → Int32 → Int32 → Int32 → Option ρ) (σ : zH) (kd1 : Nat) (i1 : Nat) (x2 : Int32) (x3 : Int32) (x4 : Int32)  : gl_X3_alike_5 f σ [vR 3 0, vR kd1 i1, vI x2, vI x3, vI x4] [] = f σ kd1 i1 x2 x3 x4 := rfl
theorem t_X3_alike_0 {G : Nat → zH → List zAV → List zAV → Option (zH × Int32)} (es : List zEnt) (σ : zH) (kd1 : Nat) (i1 : Nat) (x2 : Int32) (y3 : zAV) (y4 : zAV) (w0 : Int32) (w2 : Int32) : zev zc0 G 0 krI (zEk 0 (.iconst 0) 1 w0 :: zE 1 (.istore_n 3) 1 :: zEk 2 (.iconst 0) 1 w2 :: zE 3 (.istore 4) 2 :: es) σ [vR 3 0, vR kd1 i1, vI x2, y3, y4] [] = zev zc0 G 0 krI es σ [vR 3 0, vR kd1 i1, vI x2, vI w0, vI w2] [] := rfl
theorem t_X3_alike_5 {G : Nat → zH → List zAV → List zAV → Option (zH × Int32)} (es : List zEnt) (σ : zH) (kd1 : Nat) (i1 : Nat) (x2 : Int32) (x3 : Int32) (x4 : Int32)   : zev zc0 G 0 krI (zE 5 (.iload 4) 2 :: zE 7 (.aload_n 0) 1 :: zEf 8 (.getfield 22) 3 3 0 133 (2, 8, 0) :: zEf 11 (.getfield 41) 3 8 0 85 (1, 0, 1) :: zEf 14 (.getfield 51) 3 0 0 32 (0, 0, 0) :: es) σ [vR 3 0, vR kd1 i1, vI x2, vI x3, vI x4] [] = zev zc0 G 0 krI es σ [vR 3 0, vR kd1 i1, vI x2, vI x3, vI x4] [vI (σ.1 0 (0 + 1) 0), vI x4] := rfl
theorem t_X3_alike_20 {G : Nat → zH → List zAV → List zAV → Option (zH × Int32)} (es : List zEnt) (σ : zH) (kd1 : Nat) (i1 : Nat) (x2 : Int32) (x3 : Int32) (x4 : Int32)   : zev zc0 G 0 krI (zE 20 (.aload_n 1) 1 :: zE 21 (.iload 4) 2 :: es) σ [vR 3 0, vR kd1 i1, vI x2, vI x3, vI x4] [] = zev zc0 G 0 krI es σ [vR 3 0, vR kd1 i1, vI x2, vI x3, vI x4] [vI x4, vR kd1 i1] := rfl
theorem t_X3_alike_24 {G : Nat → zH → List zAV → List zAV → Option (zH × Int32)} (es : List zEnt) (σ : zH) (kd1 : Nat) (i1 : Nat) (x2 : Int32) (x3 : Int32) (x4 : Int32) (xs0 : Int32)   : zev zc0 G 0 krI (zE 24 (.aload_n 1) 1 :: zE 25 (.iload_n 2) 1 :: es) σ [vR 3 0, vR kd1 i1, vI x2, vI x3, vI x4] [vI xs0] = zev zc0 G 0 krI es σ [vR 3 0, vR kd1 i1, vI x2, vI x3, vI x4] [vI x2, vR kd1 i1, vI xs0] := rfl
theorem t_X3_alike_30 {G : Nat → zH → List zAV → List zAV → Option (zH × Int32)} (es : List zEnt) (σ : zH) (kd1 : Nat) (i1 : Nat) (x2 : Int32) (x3 : Int32) (x4 : Int32)  (w31 : Int32) (w37 : Int32) : zev zc0 G 0 krI (zE 30 (.iload_n 3) 1 :: zEk 31 (.iconst 1) 1 w31 :: zE 32 (.iload 4) 2 :: zE 34 .ishl 1 :: zE 35 .ior 1 :: zE 36 (.istore_n 3) 1 :: zEk 37 (.iinc 4 1) 3 w37 :: es) σ [vR 3 0, vR kd1 i1, vI x2, vI x3, vI x4] [] = zev zc0 G 0 krI es σ [vR 3 0, vR kd1 i1, vI x2, vI (x3 ||| (w31 <<< (x4 &&& 31))), vI (x4 + w37)] [] := rfl
theorem t_X3_alike_37 {G : Nat → zH → List zAV → List zAV → Option (zH × Int32)} (es : List zEnt) (σ : zH) (kd1 : Nat) (i1 : Nat) (x2 : Int32) (x3 : Int32) (x4 : Int32)  (w37 : Int32) : zev zc0 G 0 krI (zEk 37 (.iinc 4 1) 3 w37 :: es) σ [vR 3 0, vR kd1 i1, vI x2, vI x3, vI x4] [] = zev zc0 G 0 krI es σ [vR 3 0, vR kd1 i1, vI x2, vI x3, vI (x4 + w37)] [] := rfl
theorem t_X3_alike_43 {G : Nat → zH → List zAV → List zAV → Option (zH × Int32)} (es : List zEnt) (σ : zH) (x3 : Int32) (y0 : zAV) (y1 : zAV) (y2 : zAV) (y4 : zAV)  : zev zc0 G 0 krI (zE 43 (.iload_n 3) 1 :: es) σ [y0, y1, y2, vI x3, y4] [] = zev zc0 G 0 krI es σ [y0, y1, y2, vI x3, y4] [vI x3] := rfl
noncomputable def k_X3_alike_5  : Nat → zH → Nat → Nat → Int32 → Int32 → Int32 → Option (zH × Int32)
  | 0, _, _, _, _, _, _ => none
  | n + 1, σ, kd1, i1, x2, x3, x4 =>
    if x4 < (σ.1 0 (0 + 1) 0) then
      gd (aT kd1 == 0) <| ix x4 (aN kd1) fun j1 =>
      gd (aT kd1 == 0) <| ix x2 (aN kd1) fun j2 =>
      if (σ.1 kd1 i1 j1) = (σ.1 kd1 i1 j2) then
        (k_X3_alike_5 n) σ kd1 i1 x2 (x3 ||| ((1 : Int32) <<< (x4 &&& 31))) (x4 + (1 : Int32))
      else
        (k_X3_alike_5 n) σ kd1 i1 x2 x3 (x4 + (1 : Int32))
    else
      some (σ, x3)
theorem e_X3_alike_5  (n : Nat) (σ : zH) (kd1 : Nat) (i1 : Nat) (x2 : Int32) (x3 : Int32) (x4 : Int32)  : k_X3_alike_5 (n + 1) σ kd1 i1 x2 x3 x4 = zin zc0 (fun t => if t = 5 then some (gl_X3_alike_5 (k_X3_alike_5 n)) else none) 0 krI b_X3_alike 5 σ [vR 3 0, vR kd1 i1, vI x2, vI x3, vI x4] [] := by
  rw [k_X3_alike_5]
  refine Eq.symm ((zin_b (es := q_X3_alike_5) rfl).trans ?_)
  refine (t_X3_alike_5 _ _ _ _ _ _ _).trans ?_
  refine x_icmp.trans (pif_ge ?_ ?_)
  · refine (zrun_b (es := q_X3_alike_43) rfl rfl).trans ?_
    refine (t_X3_alike_43 _ _ _ _ _ _ _).trans ?_
    exact x_iret
  · refine (t_X3_alike_20 _ _ _ _ _ _ _).trans ?_
    refine x_iaP.trans (pgd (pix fun _ => ?_))
    refine (t_X3_alike_24 _ _ _ _ _ _ _ _).trans ?_
    refine x_iaP.trans (pgd (pix fun _ => ?_))
    refine x_icmp.trans (pif_ne ?_ ?_)
    · refine (zrun_b (es := q_X3_alike_37) rfl rfl).trans ?_
      refine (t_X3_alike_37 _ _ _ _ _ _ _ _).trans ?_
      refine x_goto.trans ?_
      exact (zrun_c rfl).trans (glr_X3_alike_5 _ _ _ _ _ _ _)
    · refine (t_X3_alike_30 _ _ _ _ _ _ _ _ _).trans ?_
      refine x_goto.trans ?_
      exact (zrun_c rfl).trans (glr_X3_alike_5 _ _ _ _ _ _ _)
theorem s_X3_alike_5 {X : zX} (hX : zHX X)   : ∀ n σ L st r, gl_X3_alike_5 (k_X3_alike_5 n) σ L st = some r → zGW X 30 krI 5 σ L st r := by
  intro n
  induction n with
  | zero =>
    intro σ L st r h
    unfold gl_X3_alike_5 at h
    split at h <;> cases h
  | succ n ih =>
    intro σ L st r h
    unfold gl_X3_alike_5 at h
    split at h
    · exact zin_ok (hy_X3_alike hX) bk_X3_alike (fun t f hf => by
      by_cases e5 : t = 5
      · rw [if_pos e5] at hf; subst e5; cases hf; exact ih
      rw [if_neg e5] at hf
      cases hf) ((e_X3_alike_5 _ _ _ _ _ _ _).symm.trans h)
    · cases h
noncomputable def d_X3_alike (σ : zH) (kda1 : Nat) (ia1 : Nat) (xa2 : Int32) : Option (zH × Int32) :=
  (k_X3_alike_5 zN) σ kda1 ia1 xa2 (0 : Int32) (0 : Int32)
theorem e_X3_alike (σ : zH) (kda1 : Nat) (ia1 : Nat) (xa2 : Int32) : d_X3_alike σ kda1 ia1 xa2 = zin zc0 (fun t => if t = 5 then some (gl_X3_alike_5 (k_X3_alike_5 zN)) else none) 0 krI b_X3_alike 0 σ [vR 3 0, vR kda1 ia1, vI xa2, vU, vU] [] := by
  unfold d_X3_alike
  refine Eq.symm ((zin_b (es := q_X3_alike_0) rfl).trans ?_)
  refine (t_X3_alike_0 _ _ _ _ _ _ _ _ _).trans ?_
  refine x_cut.trans ?_
  exact (zrun_c rfl).trans (glr_X3_alike_5 _ _ _ _ _ _ _)
noncomputable def g_X3_alike {ρ : Type} (σ : zH) (av : List zAV) (q : zH → zAV → Option ρ) : Option ρ := match av with
  | [.inr (.inr (.inl (3, 0))), .inr (.inr (.inl (kda1, ia1))), .inl xa2] => (d_X3_alike σ kda1 ia1 xa2).bind fun p => q p.1 (vI p.2)
  | _ => none
theorem gr_X3_alike {ρ : Type} (σ : zH) (kda1 : Nat) (ia1 : Nat) (xa2 : Int32) (q : zH → zAV → Option ρ) : g_X3_alike σ [vR 3 0, vR kda1 ia1, vI xa2] q = (d_X3_alike σ kda1 ia1 xa2).bind fun p => q p.1 (vI p.2) := rfl
theorem c_X3_alike {ρ : Type} {X : zX} (hX : zHX X) {σ : zH} {av : List zAV} {q : zH → zAV → Option ρ} {r : ρ} (h : g_X3_alike σ av q = some r) (hv : ∀ a ∈ av, zval X a) : zcon X 30 σ av q r := by
  unfold g_X3_alike at h
  split at h
  · exact zcon_I (n := 30) (ml := 5) (rc := 0) (st := 0) (kd := 3) (np := 2) (by decide +kernel) (by decide) ⟨_, _, rfl, rfl⟩ (Nat.le_of_ble_eq_true rfl) hv h (fun y h1 => (zin_ok (hy_X3_alike hX) bk_X3_alike (fun t f hf => by
      by_cases e5 : t = 5
      · rw [if_pos e5] at hf; subst e5; cases hf; exact ((fun σ L st r h => s_X3_alike_5 hX  zN σ L st r h))
      rw [if_neg e5] at hf
      cases hf) ((e_X3_alike _ _ _ _).symm.trans h1)))
  · cases h
/-! SleepWaves$Gossip.dreamOn(II)I -/
def q_X3_dreamOn_12 : List zEnt := zE 12 .ireturn 1 :: []
def q_X3_dreamOn_11 : List zEnt := zE 11 (.iload_n 1) 1 :: q_X3_dreamOn_12
def q_X3_dreamOn_8 : List zEnt := zEa 8 (.if_icmp .lt 5) 3 13 :: q_X3_dreamOn_11
def q_X3_dreamOn_4 : List zEnt := zE 4 (.iload_n 2) 1 :: zEk 5 (.sipush 192) 3 192 :: q_X3_dreamOn_8
def q_X3_dreamOn_1 : List zEnt := zEa 1 (.ifCond .lt 10) 3 11 :: q_X3_dreamOn_4
def q_X3_dreamOn_0 : List zEnt := zE 0 (.iload_n 2) 1 :: q_X3_dreamOn_1
def q_X3_dreamOn_13 : List zEnt := zE 13 (.iload_n 1) 1 :: zE 14 (.istore_n 3) 1 :: zEk 15 (.iconst 0) 1 0 :: zE 16 (.istore 4) 2 :: [zE 18 .nop 0]
def q_X3_dreamOn_78 : List zEnt := zEa 78 (.goto (-60)) 3 18 :: []
def q_X3_dreamOn_75 : List zEnt := zEk 75 (.iinc 4 1) 3 1 :: q_X3_dreamOn_78
def q_X3_dreamOn_72 : List zEnt := zE 72 .iand 1 :: zE 73 .ior 1 :: zE 74 (.istore_n 3) 1 :: q_X3_dreamOn_75
def q_X3_dreamOn_69 : List zEnt := zEc 69 (.invokevirtual 64) 3 30 3 108 0 :: q_X3_dreamOn_72
def q_X3_dreamOn_56 : List zEnt := zE 56 (.aload_n 0) 1 :: zE 57 (.aload_n 0) 1 :: zEf 58 (.getfield 22) 3 3 0 133 (2, 8, 0) :: zEf 61 (.getfield 41) 3 8 0 85 (1, 0, 1) :: zEf 64 (.getfield 58) 3 0 2 41 (1, 13, 0) :: zE 67 (.iload 4) 2 :: q_X3_dreamOn_69
def q_X3_dreamOn_55 : List zEnt := zE 55 .iaload 1 :: q_X3_dreamOn_56
def q_X3_dreamOn_49 : List zEnt := zE 49 (.iload_n 3) 1 :: zE 50 (.aload_n 0) 1 :: zEf 51 (.getfield 18) 3 3 2 135 (2, 23, 0) :: zE 54 (.iload_n 2) 1 :: q_X3_dreamOn_55
def q_X3_dreamOn_46 : List zEnt := zEa 46 (.ifCond .eq 29) 3 75 :: q_X3_dreamOn_49
def q_X3_dreamOn_40 : List zEnt := zE 40 .iand 1 :: zE 41 (.iload 4) 2 :: zE 43 .ishr 1 :: zEk 44 (.iconst 1) 1 1 :: zE 45 .iand 1 :: q_X3_dreamOn_46
def q_X3_dreamOn_39 : List zEnt := zE 39 .iaload 1 :: q_X3_dreamOn_40
def q_X3_dreamOn_33 : List zEnt := zE 33 (.iload_n 1) 1 :: zE 34 (.aload_n 0) 1 :: zEf 35 (.getfield 18) 3 3 2 135 (2, 23, 0) :: zE 38 (.iload_n 2) 1 :: q_X3_dreamOn_39
def q_X3_dreamOn_30 : List zEnt := zEa 30 (.if_icmp .ge 51) 3 81 :: q_X3_dreamOn_33
def q_X3_dreamOn_18 : List zEnt := zE 18 (.iload 4) 2 :: zE 20 (.aload_n 0) 1 :: zEf 21 (.getfield 22) 3 3 0 133 (2, 8, 0) :: zEf 24 (.getfield 41) 3 8 0 85 (1, 0, 1) :: zEf 27 (.getfield 51) 3 0 0 32 (0, 0, 0) :: q_X3_dreamOn_30
def q_X3_dreamOn_81 : List zEnt := zE 81 (.iload_n 3) 1 :: zE 82 (.istore 4) 2 :: zEk 84 (.iconst 0) 1 0 :: zE 85 (.istore 5) 2 :: [zE 87 .nop 0]
def q_X3_dreamOn_135 : List zEnt := zEa 135 (.goto (-48)) 3 87 :: []
def q_X3_dreamOn_132 : List zEnt := zEk 132 (.iinc 5 1) 3 1 :: q_X3_dreamOn_135
def q_X3_dreamOn_129 : List zEnt := zE 129 .ior 1 :: zE 130 (.istore 4) 2 :: q_X3_dreamOn_132
def q_X3_dreamOn_126 : List zEnt := zEc 126 (.invokevirtual 64) 3 30 3 108 0 :: q_X3_dreamOn_129
def q_X3_dreamOn_111 : List zEnt := zE 111 (.iload 4) 2 :: zE 113 (.aload_n 0) 1 :: zE 114 (.aload_n 0) 1 :: zEf 115 (.getfield 22) 3 3 0 133 (2, 8, 0) :: zEf 118 (.getfield 41) 3 8 0 85 (1, 0, 1) :: zEf 121 (.getfield 61) 3 0 3 46 (1, 14, 0) :: zE 124 (.iload 5) 2 :: q_X3_dreamOn_126
def q_X3_dreamOn_108 : List zEnt := zEa 108 (.ifCond .eq 24) 3 132 :: q_X3_dreamOn_111
def q_X3_dreamOn_102 : List zEnt := zE 102 (.iload_n 3) 1 :: zE 103 (.iload 5) 2 :: zE 105 .ishr 1 :: zEk 106 (.iconst 1) 1 1 :: zE 107 .iand 1 :: q_X3_dreamOn_108
def q_X3_dreamOn_99 : List zEnt := zEa 99 (.if_icmp .ge 39) 3 138 :: q_X3_dreamOn_102
def q_X3_dreamOn_87 : List zEnt := zE 87 (.iload 5) 2 :: zE 89 (.aload_n 0) 1 :: zEf 90 (.getfield 22) 3 3 0 133 (2, 8, 0) :: zEf 93 (.getfield 41) 3 8 0 85 (1, 0, 1) :: zEf 96 (.getfield 51) 3 0 0 32 (0, 0, 0) :: q_X3_dreamOn_99
def q_X3_dreamOn_140 : List zEnt := zE 140 .ireturn 1 :: []
def q_X3_dreamOn_138 : List zEnt := zE 138 (.iload 4) 2 :: q_X3_dreamOn_140
def b_X3_dreamOn : List (Nat × List zEnt) := [(0, q_X3_dreamOn_0), (11, q_X3_dreamOn_11), (13, q_X3_dreamOn_13), (18, q_X3_dreamOn_18), (75, q_X3_dreamOn_75), (81, q_X3_dreamOn_81), (87, q_X3_dreamOn_87), (132, q_X3_dreamOn_132), (138, q_X3_dreamOn_138)]
theorem bk_X3_dreamOn : zchB 29 b_X3_dreamOn = true := by decide +kernel
noncomputable def cc_X3_dreamOn {ρ : Type} : Nat → zH → List zAV → (zH → zAV → Option ρ) → Option ρ := fun n σ av q => if n = 30 then g_X3_alike σ av q else none
theorem cs_X3_dreamOn {ρ : Type} {X : zX} (hX : zHX X) : zCS X (cc_X3_dreamOn (ρ := ρ)) := by
  intro n σ av q r h hv
  unfold cc_X3_dreamOn at h
  by_cases e_X3_alike : n = 30
  · rw [if_pos e_X3_alike] at h
    subst e_X3_alike
    exact c_X3_alike hX h hv
  rw [if_neg e_X3_alike] at h
  cases h
theorem cl_X3_dreamOn_X3_alike {ρ : Type} (σ : zH) (av : List zAV) (q : zH → zAV → Option ρ) : cc_X3_dreamOn 30 σ av q = g_X3_alike σ av q := rfl
theorem hy_X3_dreamOn {ρ : Type} {X : zX} (hX : zHX X) : zHY X 29 (cc_X3_dreamOn (ρ := ρ)) := zHX.hY hX (cs_X3_dreamOn hX) (zmok_all 29 (by decide))
def gl_X3_dreamOn_18 {ρ : Type} (f : zH → Int32 → Int32 → Int32 → Int32 → Option ρ) (σ : zH) (L st : List zAV) : Option ρ := match L, st with
  | [.inr (.inr (.inl (3, 0))), .inl x1, .inl x2, .inl x3, .inl x4, _], [] => f σ x1 x2 x3 x4
  | _, _ => none
def gl_X3_dreamOn_81 {ρ : Type} (f : zH → Int32 → Option ρ) (σ : zH) (L st : List zAV) : Option ρ := match L, st with
  | [.inr (.inr (.inl (3, 0))), _, _, .inl x3, _, _], [] => f σ x3
  | _, _ => none
def gl_X3_dreamOn_87 {ρ : Type} (f : zH → Int32 → Int32 → Int32 → Option ρ) (σ : zH) (L st : List zAV) : Option ρ := match L, st with
  | [.inr (.inr (.inl (3, 0))), _, _, .inl x3, .inl x4, .inl x5], [] => f σ x3 x4 x5
  | _, _ => none
theorem glr_X3_dreamOn_18 {ρ : Type} (f : zH → Int32 → Int32 → Int32 → Int32 → Option ρ) (σ : zH) (x1 : Int32) (x2 : Int32) (x3 : Int32) (x4 : Int32) (y5 : zAV) : gl_X3_dreamOn_18 f σ [vR 3 0, vI x1, vI x2, vI x3, vI x4, y5] [] = f σ x1 x2 x3 x4 := rfl
theorem glr_X3_dreamOn_81 {ρ : Type} (f : zH → Int32 → Option ρ) (σ : zH) (x3 : Int32) (y1 : zAV) (y2 : zAV) (y4 : zAV) (y5 : zAV) : gl_X3_dreamOn_81 f σ [vR 3 0, y1, y2, vI x3, y4, y5] [] = f σ x3 := rfl
theorem glr_X3_dreamOn_87 {ρ : Type} (f : zH → Int32 → Int32 → Int32 → Option ρ) (σ : zH) (x3 : Int32) (x4 : Int32) (x5 : Int32) (y1 : zAV) (y2 : zAV) : gl_X3_dreamOn_87 f σ [vR 3 0, y1, y2, vI x3, vI x4, vI x5] [] = f σ x3 x4 x5 := rfl
theorem t_X3_dreamOn_0 {G : Nat → zH → List zAV → List zAV → Option (zH × Int32)} (es : List zEnt) (σ : zH) (x1 : Int32) (x2 : Int32) (y3 : zAV) (y4 : zAV) (y5 : zAV)  : zev cc_X3_dreamOn G 0 krI (zE 0 (.iload_n 2) 1 :: es) σ [vR 3 0, vI x1, vI x2, y3, y4, y5] [] = zev cc_X3_dreamOn G 0 krI es σ [vR 3 0, vI x1, vI x2, y3, y4, y5] [vI x2] := rfl
theorem t_X3_dreamOn_4 {G : Nat → zH → List zAV → List zAV → Option (zH × Int32)} (es : List zEnt) (σ : zH) (x1 : Int32) (x2 : Int32) (y3 : zAV) (y4 : zAV) (y5 : zAV) (w5 : Int32) : zev cc_X3_dreamOn G 0 krI (zE 4 (.iload_n 2) 1 :: zEk 5 (.sipush 192) 3 w5 :: es) σ [vR 3 0, vI x1, vI x2, y3, y4, y5] [] = zev cc_X3_dreamOn G 0 krI es σ [vR 3 0, vI x1, vI x2, y3, y4, y5] [vI w5, vI x2] := rfl
theorem t_X3_dreamOn_11 {G : Nat → zH → List zAV → List zAV → Option (zH × Int32)} (es : List zEnt) (σ : zH) (x1 : Int32) (y0 : zAV) (y2 : zAV) (y3 : zAV) (y4 : zAV) (y5 : zAV)  : zev cc_X3_dreamOn G 0 krI (zE 11 (.iload_n 1) 1 :: es) σ [y0, vI x1, y2, y3, y4, y5] [] = zev cc_X3_dreamOn G 0 krI es σ [y0, vI x1, y2, y3, y4, y5] [vI x1] := rfl
theorem t_X3_dreamOn_13 {G : Nat → zH → List zAV → List zAV → Option (zH × Int32)} (es : List zEnt) (σ : zH) (x1 : Int32) (x2 : Int32) (y3 : zAV) (y4 : zAV) (y5 : zAV) (w15 : Int32) : zev cc_X3_dreamOn G 0 krI (zE 13 (.iload_n 1) 1 :: zE 14 (.istore_n 3) 1 :: zEk 15 (.iconst 0) 1 w15 :: zE 16 (.istore 4) 2 :: es) σ [vR 3 0, vI x1, vI x2, y3, y4, y5] [] = zev cc_X3_dreamOn G 0 krI es σ [vR 3 0, vI x1, vI x2, vI x1, vI w15, y5] [] := rfl
theorem t_X3_dreamOn_18 {G : Nat → zH → List zAV → List zAV → Option (zH × Int32)} (es : List zEnt) (σ : zH) (x1 : Int32) (x2 : Int32) (x3 : Int32) (x4 : Int32) (y5 : zAV)  : zev cc_X3_dreamOn G 0 krI (zE 18 (.iload 4) 2 :: zE 20 (.aload_n 0) 1 :: zEf 21 (.getfield 22) 3 3 0 133 (2, 8, 0) :: zEf 24 (.getfield 41) 3 8 0 85 (1, 0, 1) :: zEf 27 (.getfield 51) 3 0 0 32 (0, 0, 0) :: es) σ [vR 3 0, vI x1, vI x2, vI x3, vI x4, y5] [] = zev cc_X3_dreamOn G 0 krI es σ [vR 3 0, vI x1, vI x2, vI x3, vI x4, y5] [vI (σ.1 0 (0 + 1) 0), vI x4] := rfl
theorem t_X3_dreamOn_33 {G : Nat → zH → List zAV → List zAV → Option (zH × Int32)} (es : List zEnt) (σ : zH) (x1 : Int32) (x2 : Int32) (x3 : Int32) (x4 : Int32) (y5 : zAV)  : zev cc_X3_dreamOn G 0 krI (zE 33 (.iload_n 1) 1 :: zE 34 (.aload_n 0) 1 :: zEf 35 (.getfield 18) 3 3 2 135 (2, 23, 0) :: zE 38 (.iload_n 2) 1 :: es) σ [vR 3 0, vI x1, vI x2, vI x3, vI x4, y5] [] = zev cc_X3_dreamOn G 0 krI es σ [vR 3 0, vI x1, vI x2, vI x3, vI x4, y5] [vI x2, vR 23 0, vI x1] := rfl
theorem t_X3_dreamOn_40 {G : Nat → zH → List zAV → List zAV → Option (zH × Int32)} (es : List zEnt) (σ : zH) (x1 : Int32) (x2 : Int32) (x3 : Int32) (x4 : Int32) (xs0 : Int32) (xs1 : Int32) (y5 : zAV) (w44 : Int32) : zev cc_X3_dreamOn G 0 krI (zE 40 .iand 1 :: zE 41 (.iload 4) 2 :: zE 43 .ishr 1 :: zEk 44 (.iconst 1) 1 w44 :: zE 45 .iand 1 :: es) σ [vR 3 0, vI x1, vI x2, vI x3, vI x4, y5] [vI xs1, vI xs0] = zev cc_X3_dreamOn G 0 krI es σ [vR 3 0, vI x1, vI x2, vI x3, vI x4, y5] [vI (((xs0 &&& xs1) >>> (x4 &&& 31)) &&& w44)] := rfl
theorem t_X3_dreamOn_49 {G : Nat → zH → List zAV → List zAV → Option (zH × Int32)} (es : List zEnt) (σ : zH) (x1 : Int32) (x2 : Int32) (x3 : Int32) (x4 : Int32) (y5 : zAV)  : zev cc_X3_dreamOn G 0 krI (zE 49 (.iload_n 3) 1 :: zE 50 (.aload_n 0) 1 :: zEf 51 (.getfield 18) 3 3 2 135 (2, 23, 0) :: zE 54 (.iload_n 2) 1 :: es) σ [vR 3 0, vI x1, vI x2, vI x3, vI x4, y5] [] = zev cc_X3_dreamOn G 0 krI es σ [vR 3 0, vI x1, vI x2, vI x3, vI x4, y5] [vI x2, vR 23 0, vI x3] := rfl
theorem t_X3_dreamOn_56 {G : Nat → zH → List zAV → List zAV → Option (zH × Int32)} (es : List zEnt) (σ : zH) (x1 : Int32) (x2 : Int32) (x4 : Int32) (xs0 : Int32) (xs1 : Int32) (y3 : zAV) (y5 : zAV)  : zev cc_X3_dreamOn G 0 krI (zE 56 (.aload_n 0) 1 :: zE 57 (.aload_n 0) 1 :: zEf 58 (.getfield 22) 3 3 0 133 (2, 8, 0) :: zEf 61 (.getfield 41) 3 8 0 85 (1, 0, 1) :: zEf 64 (.getfield 58) 3 0 2 41 (1, 13, 0) :: zE 67 (.iload 4) 2 :: es) σ [vR 3 0, vI x1, vI x2, y3, vI x4, y5] [vI xs1, vI xs0] = zev cc_X3_dreamOn G 0 krI es σ [vR 3 0, vI x1, vI x2, y3, vI x4, y5] [vI x4, vR 13 ((0 + 1) + 0), vR 3 0, vI xs1, vI xs0] := rfl
theorem t_X3_dreamOn_72 {G : Nat → zH → List zAV → List zAV → Option (zH × Int32)} (es : List zEnt) (σ : zH) (x1 : Int32) (x2 : Int32) (x4 : Int32) (xs0 : Int32) (xs1 : Int32) (xs2 : Int32) (y3 : zAV) (y5 : zAV) (w75 : Int32) : zev cc_X3_dreamOn G 0 krI (zE 72 .iand 1 :: zE 73 .ior 1 :: zE 74 (.istore_n 3) 1 :: zEk 75 (.iinc 4 1) 3 w75 :: es) σ [vR 3 0, vI x1, vI x2, y3, vI x4, y5] [vI xs2, vI xs1, vI xs0] = zev cc_X3_dreamOn G 0 krI es σ [vR 3 0, vI x1, vI x2, vI (xs0 ||| (xs1 &&& xs2)), vI (x4 + w75), y5] [] := rfl
theorem t_X3_dreamOn_75 {G : Nat → zH → List zAV → List zAV → Option (zH × Int32)} (es : List zEnt) (σ : zH) (x1 : Int32) (x2 : Int32) (x3 : Int32) (x4 : Int32) (y5 : zAV) (w75 : Int32) : zev cc_X3_dreamOn G 0 krI (zEk 75 (.iinc 4 1) 3 w75 :: es) σ [vR 3 0, vI x1, vI x2, vI x3, vI x4, y5] [] = zev cc_X3_dreamOn G 0 krI es σ [vR 3 0, vI x1, vI x2, vI x3, vI (x4 + w75), y5] [] := rfl
theorem t_X3_dreamOn_81 {G : Nat → zH → List zAV → List zAV → Option (zH × Int32)} (es : List zEnt) (σ : zH) (x3 : Int32) (y1 : zAV) (y2 : zAV) (y4 : zAV) (y5 : zAV) (w84 : Int32) : zev cc_X3_dreamOn G 0 krI (zE 81 (.iload_n 3) 1 :: zE 82 (.istore 4) 2 :: zEk 84 (.iconst 0) 1 w84 :: zE 85 (.istore 5) 2 :: es) σ [vR 3 0, y1, y2, vI x3, y4, y5] [] = zev cc_X3_dreamOn G 0 krI es σ [vR 3 0, y1, y2, vI x3, vI x3, vI w84] [] := rfl
theorem t_X3_dreamOn_87 {G : Nat → zH → List zAV → List zAV → Option (zH × Int32)} (es : List zEnt) (σ : zH) (x3 : Int32) (x4 : Int32) (x5 : Int32) (y1 : zAV) (y2 : zAV)  : zev cc_X3_dreamOn G 0 krI (zE 87 (.iload 5) 2 :: zE 89 (.aload_n 0) 1 :: zEf 90 (.getfield 22) 3 3 0 133 (2, 8, 0) :: zEf 93 (.getfield 41) 3 8 0 85 (1, 0, 1) :: zEf 96 (.getfield 51) 3 0 0 32 (0, 0, 0) :: es) σ [vR 3 0, y1, y2, vI x3, vI x4, vI x5] [] = zev cc_X3_dreamOn G 0 krI es σ [vR 3 0, y1, y2, vI x3, vI x4, vI x5] [vI (σ.1 0 (0 + 1) 0), vI x5] := rfl
theorem t_X3_dreamOn_102 {G : Nat → zH → List zAV → List zAV → Option (zH × Int32)} (es : List zEnt) (σ : zH) (x3 : Int32) (x4 : Int32) (x5 : Int32) (y1 : zAV) (y2 : zAV) (w106 : Int32) : zev cc_X3_dreamOn G 0 krI (zE 102 (.iload_n 3) 1 :: zE 103 (.iload 5) 2 :: zE 105 .ishr 1 :: zEk 106 (.iconst 1) 1 w106 :: zE 107 .iand 1 :: es) σ [vR 3 0, y1, y2, vI x3, vI x4, vI x5] [] = zev cc_X3_dreamOn G 0 krI es σ [vR 3 0, y1, y2, vI x3, vI x4, vI x5] [vI ((x3 >>> (x5 &&& 31)) &&& w106)] := rfl
theorem t_X3_dreamOn_111 {G : Nat → zH → List zAV → List zAV → Option (zH × Int32)} (es : List zEnt) (σ : zH) (x3 : Int32) (x4 : Int32) (x5 : Int32) (y1 : zAV) (y2 : zAV)  : zev cc_X3_dreamOn G 0 krI (zE 111 (.iload 4) 2 :: zE 113 (.aload_n 0) 1 :: zE 114 (.aload_n 0) 1 :: zEf 115 (.getfield 22) 3 3 0 133 (2, 8, 0) :: zEf 118 (.getfield 41) 3 8 0 85 (1, 0, 1) :: zEf 121 (.getfield 61) 3 0 3 46 (1, 14, 0) :: zE 124 (.iload 5) 2 :: es) σ [vR 3 0, y1, y2, vI x3, vI x4, vI x5] [] = zev cc_X3_dreamOn G 0 krI es σ [vR 3 0, y1, y2, vI x3, vI x4, vI x5] [vI x5, vR 14 ((0 + 1) + 0), vR 3 0, vI x4] := rfl
theorem t_X3_dreamOn_129 {G : Nat → zH → List zAV → List zAV → Option (zH × Int32)} (es : List zEnt) (σ : zH) (x3 : Int32) (x5 : Int32) (xs0 : Int32) (xs1 : Int32) (y1 : zAV) (y2 : zAV) (y4 : zAV) (w132 : Int32) : zev cc_X3_dreamOn G 0 krI (zE 129 .ior 1 :: zE 130 (.istore 4) 2 :: zEk 132 (.iinc 5 1) 3 w132 :: es) σ [vR 3 0, y1, y2, vI x3, y4, vI x5] [vI xs1, vI xs0] = zev cc_X3_dreamOn G 0 krI es σ [vR 3 0, y1, y2, vI x3, vI (xs0 ||| xs1), vI (x5 + w132)] [] := rfl
theorem t_X3_dreamOn_132 {G : Nat → zH → List zAV → List zAV → Option (zH × Int32)} (es : List zEnt) (σ : zH) (x3 : Int32) (x4 : Int32) (x5 : Int32) (y1 : zAV) (y2 : zAV) (w132 : Int32) : zev cc_X3_dreamOn G 0 krI (zEk 132 (.iinc 5 1) 3 w132 :: es) σ [vR 3 0, y1, y2, vI x3, vI x4, vI x5] [] = zev cc_X3_dreamOn G 0 krI es σ [vR 3 0, y1, y2, vI x3, vI x4, vI (x5 + w132)] [] := rfl
theorem t_X3_dreamOn_138 {G : Nat → zH → List zAV → List zAV → Option (zH × Int32)} (es : List zEnt) (σ : zH) (x4 : Int32) (y0 : zAV) (y1 : zAV) (y2 : zAV) (y3 : zAV) (y5 : zAV)  : zev cc_X3_dreamOn G 0 krI (zE 138 (.iload 4) 2 :: es) σ [y0, y1, y2, y3, vI x4, y5] [] = zev cc_X3_dreamOn G 0 krI es σ [y0, y1, y2, y3, vI x4, y5] [vI x4] := rfl
noncomputable def k_X3_dreamOn_18 (c81 : zH → Int32 → Option (zH × Int32)) : Nat → zH → Int32 → Int32 → Int32 → Int32 → Option (zH × Int32)
  | 0, _, _, _, _, _ => none
  | n + 1, σ, x1, x2, x3, x4 =>
    if x4 < (σ.1 0 (0 + 1) 0) then
      ix x2 192 fun j1 =>
      if (((x1 &&& (σ.1 23 0 j1)) >>> (x4 &&& 31)) &&& (1 : Int32)) = 0 then
        (k_X3_dreamOn_18 c81 n) σ x1 x2 x3 (x4 + (1 : Int32))
      else
        ix x2 192 fun j2 =>
        (d_X3_alike σ 13 ((0 + 1) + 0) x4).bind fun p3 =>
        (k_X3_dreamOn_18 c81 n) p3.1 x1 x2 (x3 ||| ((σ.1 23 0 j2) &&& p3.2)) (x4 + (1 : Int32))
    else
      c81 σ x3
theorem e_X3_dreamOn_18 (c81 : zH → Int32 → Option (zH × Int32)) (n : Nat) (σ : zH) (x1 : Int32) (x2 : Int32) (x3 : Int32) (x4 : Int32) (y5 : zAV) : k_X3_dreamOn_18 c81 (n + 1) σ x1 x2 x3 x4 = zin cc_X3_dreamOn (fun t => if t = 18 then some (gl_X3_dreamOn_18 (k_X3_dreamOn_18 c81 n)) else if t = 81 then some (gl_X3_dreamOn_81 c81) else none) 0 krI b_X3_dreamOn 18 σ [vR 3 0, vI x1, vI x2, vI x3, vI x4, y5] [] := by
  rw [k_X3_dreamOn_18]
  refine Eq.symm ((zin_b (es := q_X3_dreamOn_18) rfl).trans ?_)
  refine (t_X3_dreamOn_18 _ _ _ _ _ _ _).trans ?_
  refine x_icmp.trans (pif_ge ?_ ?_)
  · exact (zrun_c rfl).trans (glr_X3_dreamOn_81 _ _ _ _ _ _ _)
  · refine (t_X3_dreamOn_33 _ _ _ _ _ _ _).trans ?_
    refine (x_iald (N := 192) rfl rfl).trans (pix fun _ => ?_)
    refine (t_X3_dreamOn_40 _ _ _ _ _ _ _ _ _ _).trans ?_
    refine x_if.trans (pif_eq ?_ ?_)
    · refine (zrun_b (es := q_X3_dreamOn_75) rfl rfl).trans ?_
      refine (t_X3_dreamOn_75 _ _ _ _ _ _ _ _).trans ?_
      refine x_goto.trans ?_
      exact (zrun_c rfl).trans (glr_X3_dreamOn_18 _ _ _ _ _ _ _)
    · refine (t_X3_dreamOn_49 _ _ _ _ _ _ _).trans ?_
      refine (x_iald (N := 192) rfl rfl).trans (pix fun _ => ?_)
      refine (t_X3_dreamOn_56 _ _ _ _ _ _ _ _ _).trans ?_
      refine (x_callV rfl rfl rfl rfl).trans ((cl_X3_dreamOn_X3_alike _ _ _).trans ((gr_X3_alike _ _ _ _ _).trans (pbd fun _ => ?_)))
      refine (t_X3_dreamOn_72 _ _ _ _ _ _ _ _ _ _ _).trans ?_
      refine x_goto.trans ?_
      exact (zrun_c rfl).trans (glr_X3_dreamOn_18 _ _ _ _ _ _ _)
theorem s_X3_dreamOn_18 {X : zX} (hX : zHX X) {c81 : zH → Int32 → Option (zH × Int32)} (h81 : ∀ σ L st r, gl_X3_dreamOn_81 c81 σ L st = some r → zGW X 29 krI 81 σ L st r) : ∀ n σ L st r, gl_X3_dreamOn_18 (k_X3_dreamOn_18 c81 n) σ L st = some r → zGW X 29 krI 18 σ L st r := by
  intro n
  induction n with
  | zero =>
    intro σ L st r h
    unfold gl_X3_dreamOn_18 at h
    split at h <;> cases h
  | succ n ih =>
    intro σ L st r h
    unfold gl_X3_dreamOn_18 at h
    split at h
    · exact zin_ok (hy_X3_dreamOn hX) bk_X3_dreamOn (fun t f hf => by
      by_cases e18 : t = 18
      · rw [if_pos e18] at hf; subst e18; cases hf; exact ih
      rw [if_neg e18] at hf
      by_cases e81 : t = 81
      · rw [if_pos e81] at hf; subst e81; cases hf; exact h81
      rw [if_neg e81] at hf
      cases hf) ((e_X3_dreamOn_18 _ _ _ _ _ _ _ _).symm.trans h)
    · cases h
noncomputable def k_X3_dreamOn_87  : Nat → zH → Int32 → Int32 → Int32 → Option (zH × Int32)
  | 0, _, _, _, _ => none
  | n + 1, σ, x3, x4, x5 =>
    if x5 < (σ.1 0 (0 + 1) 0) then
      if ((x3 >>> (x5 &&& 31)) &&& (1 : Int32)) = 0 then
        (k_X3_dreamOn_87 n) σ x3 x4 (x5 + (1 : Int32))
      else
        (d_X3_alike σ 14 ((0 + 1) + 0) x5).bind fun p1 =>
        (k_X3_dreamOn_87 n) p1.1 x3 (x4 ||| p1.2) (x5 + (1 : Int32))
    else
      some (σ, x4)
theorem e_X3_dreamOn_87  (n : Nat) (σ : zH) (x3 : Int32) (x4 : Int32) (x5 : Int32) (y1 : zAV) (y2 : zAV) : k_X3_dreamOn_87 (n + 1) σ x3 x4 x5 = zin cc_X3_dreamOn (fun t => if t = 87 then some (gl_X3_dreamOn_87 (k_X3_dreamOn_87 n)) else none) 0 krI b_X3_dreamOn 87 σ [vR 3 0, y1, y2, vI x3, vI x4, vI x5] [] := by
  rw [k_X3_dreamOn_87]
  refine Eq.symm ((zin_b (es := q_X3_dreamOn_87) rfl).trans ?_)
  refine (t_X3_dreamOn_87 _ _ _ _ _ _ _).trans ?_
  refine x_icmp.trans (pif_ge ?_ ?_)
  · refine (zrun_b (es := q_X3_dreamOn_138) rfl rfl).trans ?_
    refine (t_X3_dreamOn_138 _ _ _ _ _ _ _ _).trans ?_
    exact x_iret
  · refine (t_X3_dreamOn_102 _ _ _ _ _ _ _ _).trans ?_
    refine x_if.trans (pif_eq ?_ ?_)
    · refine (zrun_b (es := q_X3_dreamOn_132) rfl rfl).trans ?_
      refine (t_X3_dreamOn_132 _ _ _ _ _ _ _ _).trans ?_
      refine x_goto.trans ?_
      exact (zrun_c rfl).trans (glr_X3_dreamOn_87 _ _ _ _ _ _ _)
    · refine (t_X3_dreamOn_111 _ _ _ _ _ _ _).trans ?_
      refine (x_callV rfl rfl rfl rfl).trans ((cl_X3_dreamOn_X3_alike _ _ _).trans ((gr_X3_alike _ _ _ _ _).trans (pbd fun _ => ?_)))
      refine (t_X3_dreamOn_129 _ _ _ _ _ _ _ _ _ _).trans ?_
      refine x_goto.trans ?_
      exact (zrun_c rfl).trans (glr_X3_dreamOn_87 _ _ _ _ _ _ _)
theorem s_X3_dreamOn_87 {X : zX} (hX : zHX X)   : ∀ n σ L st r, gl_X3_dreamOn_87 (k_X3_dreamOn_87 n) σ L st = some r → zGW X 29 krI 87 σ L st r := by
  intro n
  induction n with
  | zero =>
    intro σ L st r h
    unfold gl_X3_dreamOn_87 at h
    split at h <;> cases h
  | succ n ih =>
    intro σ L st r h
    unfold gl_X3_dreamOn_87 at h
    split at h
    · exact zin_ok (hy_X3_dreamOn hX) bk_X3_dreamOn (fun t f hf => by
      by_cases e87 : t = 87
      · rw [if_pos e87] at hf; subst e87; cases hf; exact ih
      rw [if_neg e87] at hf
      cases hf) ((e_X3_dreamOn_87 _ _ _ _ _ _ _).symm.trans h)
    · cases h
noncomputable def j_X3_dreamOn_81  (σ : zH) (x3 : Int32) : Option (zH × Int32) :=
  (k_X3_dreamOn_87 zN) σ x3 x3 (0 : Int32)
theorem e_X3_dreamOn_81  (σ : zH) (x3 : Int32) (y1 : zAV) (y2 : zAV) (y4 : zAV) (y5 : zAV) : j_X3_dreamOn_81 σ x3 = zin cc_X3_dreamOn (fun t => if t = 87 then some (gl_X3_dreamOn_87 (k_X3_dreamOn_87 zN)) else none) 0 krI b_X3_dreamOn 81 σ [vR 3 0, y1, y2, vI x3, y4, y5] [] := by
  unfold j_X3_dreamOn_81
  refine Eq.symm ((zin_b (es := q_X3_dreamOn_81) rfl).trans ?_)
  refine (t_X3_dreamOn_81 _ _ _ _ _ _ _ _).trans ?_
  refine x_cut.trans ?_
  exact (zrun_c rfl).trans (glr_X3_dreamOn_87 _ _ _ _ _ _ _)
theorem s_X3_dreamOn_81 {X : zX} (hX : zHX X)   : ∀ σ L st r, gl_X3_dreamOn_81 j_X3_dreamOn_81 σ L st = some r → zGW X 29 krI 81 σ L st r := by
  intro σ L st r h
  unfold gl_X3_dreamOn_81 at h
  split at h
  · exact zin_ok (hy_X3_dreamOn hX) bk_X3_dreamOn (fun t f hf => by
    by_cases e87 : t = 87
    · rw [if_pos e87] at hf; subst e87; cases hf; exact ((fun σ L st r h => s_X3_dreamOn_87 hX  zN σ L st r h))
    rw [if_neg e87] at hf
    cases hf) ((e_X3_dreamOn_81 _ _ _ _ _ _).symm.trans h)
  · cases h
noncomputable def d_X3_dreamOn (σ : zH) (xa1 : Int32) (xa2 : Int32) : Option (zH × Int32) :=
  if xa2 < 0 then
    some (σ, xa1)
  else
    if xa2 < (192 : Int32) then
      (k_X3_dreamOn_18 j_X3_dreamOn_81 zN) σ xa1 xa2 xa1 (0 : Int32)
    else
      some (σ, xa1)
theorem e_X3_dreamOn (σ : zH) (xa1 : Int32) (xa2 : Int32) : d_X3_dreamOn σ xa1 xa2 = zin cc_X3_dreamOn (fun t => if t = 18 then some (gl_X3_dreamOn_18 (k_X3_dreamOn_18 j_X3_dreamOn_81 zN)) else none) 0 krI b_X3_dreamOn 0 σ [vR 3 0, vI xa1, vI xa2, vU, vU, vU] [] := by
  unfold d_X3_dreamOn
  refine Eq.symm ((zin_b (es := q_X3_dreamOn_0) rfl).trans ?_)
  refine (t_X3_dreamOn_0 _ _ _ _ _ _ _).trans ?_
  refine x_if.trans (pif_lt ?_ ?_)
  · refine (zrun_b (es := q_X3_dreamOn_11) rfl rfl).trans ?_
    refine (t_X3_dreamOn_11 _ _ _ _ _ _ _ _).trans ?_
    exact x_iret
  · refine (t_X3_dreamOn_4 _ _ _ _ _ _ _ _).trans ?_
    refine x_icmp.trans (pif_lt ?_ ?_)
    · refine (zrun_b (es := q_X3_dreamOn_13) rfl rfl).trans ?_
      refine (t_X3_dreamOn_13 _ _ _ _ _ _ _ _).trans ?_
      refine x_cut.trans ?_
      exact (zrun_c rfl).trans (glr_X3_dreamOn_18 _ _ _ _ _ _ _)
    · refine (t_X3_dreamOn_11 _ _ _ _ _ _ _ _).trans ?_
      exact x_iret
noncomputable def g_X3_dreamOn {ρ : Type} (σ : zH) (av : List zAV) (q : zH → zAV → Option ρ) : Option ρ := match av with
  | [.inr (.inr (.inl (3, 0))), .inl xa1, .inl xa2] => (d_X3_dreamOn σ xa1 xa2).bind fun p => q p.1 (vI p.2)
  | _ => none
theorem gr_X3_dreamOn {ρ : Type} (σ : zH) (xa1 : Int32) (xa2 : Int32) (q : zH → zAV → Option ρ) : g_X3_dreamOn σ [vR 3 0, vI xa1, vI xa2] q = (d_X3_dreamOn σ xa1 xa2).bind fun p => q p.1 (vI p.2) := rfl
theorem c_X3_dreamOn {ρ : Type} {X : zX} (hX : zHX X) {σ : zH} {av : List zAV} {q : zH → zAV → Option ρ} {r : ρ} (h : g_X3_dreamOn σ av q = some r) (hv : ∀ a ∈ av, zval X a) : zcon X 29 σ av q r := by
  unfold g_X3_dreamOn at h
  split at h
  · exact zcon_I (n := 29) (ml := 6) (rc := 0) (st := 0) (kd := 3) (np := 2) (by decide +kernel) (by decide) ⟨_, _, rfl, rfl⟩ (Nat.le_of_ble_eq_true rfl) hv h (fun y h1 => (zin_ok (hy_X3_dreamOn hX) bk_X3_dreamOn (fun t f hf => by
      by_cases e18 : t = 18
      · rw [if_pos e18] at hf; subst e18; cases hf; exact ((fun σ L st r h => s_X3_dreamOn_18 hX (s_X3_dreamOn_81 hX) zN σ L st r h))
      rw [if_neg e18] at hf
      cases hf) ((e_X3_dreamOn _ _ _).symm.trans h1)))
  · cases h
/-! SleepWaves$Law.clear()V -/
def q_X4_clear_10 : List zEnt := zE 10 .return_ 1 :: []
def q_X4_clear_7 : List zEnt := zEf 7 (.putfield 33) 3 4 3 80 (0, 0, 0) :: q_X4_clear_10
def q_X4_clear_5 : List zEnt := zE 5 (.aload_n 0) 1 :: zEk 6 (.iconst 0) 1 0 :: q_X4_clear_7
def q_X4_clear_2 : List zEnt := zEf 2 (.putfield 29) 3 4 0 77 (0, 0, 0) :: q_X4_clear_5
def q_X4_clear_0 : List zEnt := zE 0 (.aload_n 0) 1 :: zEk 1 (.iconst 0) 1 0 :: q_X4_clear_2
def b_X4_clear : List (Nat × List zEnt) := [(0, q_X4_clear_0)]
theorem bk_X4_clear : zchB 31 b_X4_clear = true := by decide +kernel
theorem hy_X4_clear {ρ : Type} {X : zX} (hX : zHX X) : zHY X 31 (zc0 (ρ := ρ)) := zHX.hY hX (zc0_ok X) (zmok_all 31 (by decide))
theorem t_X4_clear_0 {G : Nat → zH → List zAV → List zAV → Option zH} (es : List zEnt) (σ : zH) (i0 : Nat)  (w1 : Int32) : zev zc0 G 9 krV (zE 0 (.aload_n 0) 1 :: zEk 1 (.iconst 0) 1 w1 :: es) σ [vR 4 i0] [] = zev zc0 G 9 krV es σ [vR 4 i0] [vI w1, vR 4 i0] := rfl
theorem t_X4_clear_5 {G : Nat → zH → List zAV → List zAV → Option zH} (es : List zEnt) (σ : zH) (i0 : Nat)  (w6 : Int32) : zev zc0 G 9 krV (zE 5 (.aload_n 0) 1 :: zEk 6 (.iconst 0) 1 w6 :: es) σ [vR 4 i0] [] = zev zc0 G 9 krV es σ [vR 4 i0] [vI w6, vR 4 i0] := rfl
noncomputable def d_X4_clear (σ : zH) (ia0 : Nat) : Option zH :=
  zlet (uI σ 4 ia0 0 (0 : Int32)) fun σ1 =>
  zlet (uI σ1 4 ia0 3 (0 : Int32)) fun σ2 =>
  some σ2
theorem e_X4_clear (σ : zH) (ia0 : Nat) : d_X4_clear σ ia0 = zin zc0 (fun t => none) 9 krV b_X4_clear 0 σ [vR 4 ia0] [] := by
  unfold d_X4_clear
  refine Eq.symm ((zin_b (es := q_X4_clear_0) rfl).trans ?_)
  refine (t_X4_clear_0 _ _ _ _).trans ?_
  refine x_pf0.trans (plt fun _ => ?_)
  refine (t_X4_clear_5 _ _ _ _).trans ?_
  refine x_pf0.trans (plt fun _ => ?_)
  exact x_vret
noncomputable def g_X4_clear {ρ : Type} (σ : zH) (av : List zAV) (q : zH → zAV → Option ρ) : Option ρ := match av with
  | [.inr (.inr (.inl (4, ia0)))] => (d_X4_clear σ ia0).bind fun σ => q σ vU
  | _ => none
theorem gr_X4_clear {ρ : Type} (σ : zH) (ia0 : Nat) (q : zH → zAV → Option ρ) : g_X4_clear σ [vR 4 ia0] q = (d_X4_clear σ ia0).bind fun σ => q σ vU := rfl
theorem c_X4_clear {ρ : Type} {X : zX} (hX : zHX X) {σ : zH} {av : List zAV} {q : zH → zAV → Option ρ} {r : ρ} (h : g_X4_clear σ av q = some r) (hv : ∀ a ∈ av, zval X a) : zcon X 31 σ av q r := by
  unfold g_X4_clear at h
  split at h
  · exact zcon_V (n := 31) (ml := 1) (rc := 9) (st := 0) (kd := 4) (np := 0) (by decide +kernel) rfl ⟨_, _, rfl, rfl⟩ (Nat.le_of_ble_eq_true rfl) hv h (fun y h1 => (zin_ok (hy_X4_clear hX) bk_X4_clear (fun t f hf => by
      cases hf) ((e_X4_clear _ _).symm.trans h1)))
  · cases h
/-! SleepWaves$Law.isFull()Z -/
def q_X4_isFull_10 : List zEnt := zEa 10 (.goto 4) 3 14 :: []
def q_X4_isFull_9 : List zEnt := zEk 9 (.iconst 1) 1 1 :: q_X4_isFull_10
def q_X4_isFull_6 : List zEnt := zEa 6 (.if_icmp .lt 7) 3 13 :: q_X4_isFull_9
def q_X4_isFull_0 : List zEnt := zE 0 (.aload_n 0) 1 :: zEf 1 (.getfield 29) 3 4 0 77 (0, 0, 0) :: zEk 4 (.bipush 12) 2 12 :: q_X4_isFull_6
def q_X4_isFull_14 : List zEnt := zE 14 .ireturn 1 :: []
def q_X4_isFull_13 : List zEnt := zEk 13 (.iconst 0) 1 0 :: q_X4_isFull_14
def b_X4_isFull : List (Nat × List zEnt) := [(0, q_X4_isFull_0), (13, q_X4_isFull_13), (14, q_X4_isFull_14)]
theorem bk_X4_isFull : zchB 32 b_X4_isFull = true := by decide +kernel
theorem hy_X4_isFull {ρ : Type} {X : zX} (hX : zHX X) : zHY X 32 (zc0 (ρ := ρ)) := zHX.hY hX (zc0_ok X) (zmok_all 32 (by decide))
theorem t_X4_isFull_0 {G : Nat → zH → List zAV → List zAV → Option (zH × Int32)} (es : List zEnt) (σ : zH) (i0 : Nat)  (w4 : Int32) : zev zc0 G 1 krI (zE 0 (.aload_n 0) 1 :: zEf 1 (.getfield 29) 3 4 0 77 (0, 0, 0) :: zEk 4 (.bipush 12) 2 w4 :: es) σ [vR 4 i0] [] = zev zc0 G 1 krI es σ [vR 4 i0] [vI w4, vI (σ.1 4 i0 0)] := rfl
theorem t_X4_isFull_9 {G : Nat → zH → List zAV → List zAV → Option (zH × Int32)} (es : List zEnt) (σ : zH)  (y0 : zAV) (w9 : Int32) : zev zc0 G 1 krI (zEk 9 (.iconst 1) 1 w9 :: es) σ [y0] [] = zev zc0 G 1 krI es σ [y0] [vI w9] := rfl
theorem t_X4_isFull_13 {G : Nat → zH → List zAV → List zAV → Option (zH × Int32)} (es : List zEnt) (σ : zH)  (y0 : zAV) (w13 : Int32) : zev zc0 G 1 krI (zEk 13 (.iconst 0) 1 w13 :: es) σ [y0] [] = zev zc0 G 1 krI es σ [y0] [vI w13] := rfl
noncomputable def d_X4_isFull (σ : zH) (ia0 : Nat) : Option (zH × Int32) :=
  if (σ.1 4 ia0 0) < (12 : Int32) then
    some (σ, (0 : Int32))
  else
    some (σ, (1 : Int32))
theorem e_X4_isFull (σ : zH) (ia0 : Nat) : d_X4_isFull σ ia0 = zin zc0 (fun t => none) 1 krI b_X4_isFull 0 σ [vR 4 ia0] [] := by
  unfold d_X4_isFull
  refine Eq.symm ((zin_b (es := q_X4_isFull_0) rfl).trans ?_)
  refine (t_X4_isFull_0 _ _ _ _).trans ?_
  refine x_icmp.trans (pif_lt ?_ ?_)
  · refine (zrun_b (es := q_X4_isFull_13) rfl rfl).trans ?_
    refine (t_X4_isFull_13 _ _ _ _).trans ?_
    exact x_zret.trans (tv_l (by decide +kernel))
  · refine (t_X4_isFull_9 _ _ _ _).trans ?_
    refine x_goto.trans ?_
    refine (zrun_b (es := q_X4_isFull_14) rfl rfl).trans ?_
    exact x_zret.trans (tv_l (by decide +kernel))
noncomputable def g_X4_isFull {ρ : Type} (σ : zH) (av : List zAV) (q : zH → zAV → Option ρ) : Option ρ := match av with
  | [.inr (.inr (.inl (4, ia0)))] => (d_X4_isFull σ ia0).bind fun p => q p.1 (vI p.2)
  | _ => none
theorem gr_X4_isFull {ρ : Type} (σ : zH) (ia0 : Nat) (q : zH → zAV → Option ρ) : g_X4_isFull σ [vR 4 ia0] q = (d_X4_isFull σ ia0).bind fun p => q p.1 (vI p.2) := rfl
theorem c_X4_isFull {ρ : Type} {X : zX} (hX : zHX X) {σ : zH} {av : List zAV} {q : zH → zAV → Option ρ} {r : ρ} (h : g_X4_isFull σ av q = some r) (hv : ∀ a ∈ av, zval X a) : zcon X 32 σ av q r := by
  unfold g_X4_isFull at h
  split at h
  · exact zcon_I (n := 32) (ml := 1) (rc := 1) (st := 0) (kd := 4) (np := 0) (by decide +kernel) (by decide) ⟨_, _, rfl, rfl⟩ (Nat.le_of_ble_eq_true rfl) hv h (fun y h1 => (zin_ok (hy_X4_isFull hX) bk_X4_isFull (fun t f hf => by
      cases hf) ((e_X4_isFull _ _).symm.trans h1)))
  · cases h
/-! SleepWaves$Law.openClause(Z)V -/
def q_X4_openClause_32 : List zEnt := zE 32 .return_ 1 :: []
def q_X4_openClause_31 : List zEnt := zE 31 .iastore 1 :: q_X4_openClause_32
def q_X4_openClause_19 : List zEnt := zE 19 (.aload_n 0) 1 :: zEf 20 (.getfield 13) 3 4 2 79 (1, 25, 0) :: zE 23 (.aload_n 0) 1 :: zEf 24 (.getfield 29) 3 4 0 77 (0, 0, 0) :: zE 27 (.aload_n 0) 1 :: zEf 28 (.getfield 33) 3 4 3 80 (0, 0, 0) :: q_X4_openClause_31
def q_X4_openClause_18 : List zEnt := zE 18 .bastore 1 :: q_X4_openClause_19
def q_X4_openClause_9 : List zEnt := zE 9 (.aload_n 0) 1 :: zEf 10 (.getfield 9) 3 4 1 78 (1, 24, 0) :: zE 13 (.aload_n 0) 1 :: zEf 14 (.getfield 29) 3 4 0 77 (0, 0, 0) :: zE 17 (.iload_n 1) 1 :: q_X4_openClause_18
def q_X4_openClause_6 : List zEnt := zEa 6 (.if_icmp .ge 26) 3 32 :: q_X4_openClause_9
def q_X4_openClause_0 : List zEnt := zE 0 (.aload_n 0) 1 :: zEf 1 (.getfield 29) 3 4 0 77 (0, 0, 0) :: zEk 4 (.bipush 12) 2 12 :: q_X4_openClause_6
def b_X4_openClause : List (Nat × List zEnt) := [(0, q_X4_openClause_0), (32, q_X4_openClause_32)]
theorem bk_X4_openClause : zchB 33 b_X4_openClause = true := by decide +kernel
theorem hy_X4_openClause {ρ : Type} {X : zX} (hX : zHX X) : zHY X 33 (zc0 (ρ := ρ)) := zHX.hY hX (zc0_ok X) (zmok_all 33 (by decide))
theorem t_X4_openClause_0 {G : Nat → zH → List zAV → List zAV → Option zH} (es : List zEnt) (σ : zH) (i0 : Nat) (x1 : Int32)  (w4 : Int32) : zev zc0 G 9 krV (zE 0 (.aload_n 0) 1 :: zEf 1 (.getfield 29) 3 4 0 77 (0, 0, 0) :: zEk 4 (.bipush 12) 2 w4 :: es) σ [vR 4 i0, vI x1] [] = zev zc0 G 9 krV es σ [vR 4 i0, vI x1] [vI w4, vI (σ.1 4 i0 0)] := rfl
theorem t_X4_openClause_9 {G : Nat → zH → List zAV → List zAV → Option zH} (es : List zEnt) (σ : zH) (i0 : Nat) (x1 : Int32)   : zev zc0 G 9 krV (zE 9 (.aload_n 0) 1 :: zEf 10 (.getfield 9) 3 4 1 78 (1, 24, 0) :: zE 13 (.aload_n 0) 1 :: zEf 14 (.getfield 29) 3 4 0 77 (0, 0, 0) :: zE 17 (.iload_n 1) 1 :: es) σ [vR 4 i0, vI x1] [] = zev zc0 G 9 krV es σ [vR 4 i0, vI x1] [vI x1, vI (σ.1 4 i0 0), vR 24 (i0 + 0)] := rfl
theorem t_X4_openClause_19 {G : Nat → zH → List zAV → List zAV → Option zH} (es : List zEnt) (σ : zH) (i0 : Nat) (y1 : zAV)  : zev zc0 G 9 krV (zE 19 (.aload_n 0) 1 :: zEf 20 (.getfield 13) 3 4 2 79 (1, 25, 0) :: zE 23 (.aload_n 0) 1 :: zEf 24 (.getfield 29) 3 4 0 77 (0, 0, 0) :: zE 27 (.aload_n 0) 1 :: zEf 28 (.getfield 33) 3 4 3 80 (0, 0, 0) :: es) σ [vR 4 i0, y1] [] = zev zc0 G 9 krV es σ [vR 4 i0, y1] [vI (σ.1 4 i0 3), vI (σ.1 4 i0 0), vR 25 (i0 + 0)] := rfl
noncomputable def d_X4_openClause (σ : zH) (ia0 : Nat) (xa1 : Int32) : Option zH :=
  if (σ.1 4 ia0 0) < (12 : Int32) then
    tv xa1 <| ix (σ.1 4 ia0 0) 12 fun j4 =>
    zlet (uI σ 24 (ia0 + 0) j4 xa1) fun σ1 =>
    ix (σ1.1 4 ia0 0) 13 fun j3 =>
    zlet (uI σ1 25 (ia0 + 0) j3 (σ1.1 4 ia0 3)) fun σ2 =>
    some σ2
  else
    some σ
theorem e_X4_openClause (σ : zH) (ia0 : Nat) (xa1 : Int32) : d_X4_openClause σ ia0 xa1 = zin zc0 (fun t => none) 9 krV b_X4_openClause 0 σ [vR 4 ia0, vI xa1] [] := by
  unfold d_X4_openClause
  refine Eq.symm ((zin_b (es := q_X4_openClause_0) rfl).trans ?_)
  refine (t_X4_openClause_0 _ _ _ _ _).trans ?_
  refine x_icmp.trans (pif_ge ?_ ?_)
  · refine (zrun_b (es := q_X4_openClause_32) rfl rfl).trans ?_
    exact x_vret
  · refine (t_X4_openClause_9 _ _ _ _).trans ?_
    refine (x_bas2 (N := 12) rfl rfl).trans (ptv (pix fun _ => plt fun _ => ?_))
    refine (t_X4_openClause_19 _ _ _ _).trans ?_
    refine (x_iast (N := 13) rfl rfl).trans (pix fun _ => plt fun _ => ?_)
    exact x_vret
noncomputable def g_X4_openClause {ρ : Type} (σ : zH) (av : List zAV) (q : zH → zAV → Option ρ) : Option ρ := match av with
  | [.inr (.inr (.inl (4, ia0))), .inl xa1] => (d_X4_openClause σ ia0 xa1).bind fun σ => q σ vU
  | _ => none
theorem gr_X4_openClause {ρ : Type} (σ : zH) (ia0 : Nat) (xa1 : Int32) (q : zH → zAV → Option ρ) : g_X4_openClause σ [vR 4 ia0, vI xa1] q = (d_X4_openClause σ ia0 xa1).bind fun σ => q σ vU := rfl
theorem c_X4_openClause {ρ : Type} {X : zX} (hX : zHX X) {σ : zH} {av : List zAV} {q : zH → zAV → Option ρ} {r : ρ} (h : g_X4_openClause σ av q = some r) (hv : ∀ a ∈ av, zval X a) : zcon X 33 σ av q r := by
  unfold g_X4_openClause at h
  split at h
  · exact zcon_V (n := 33) (ml := 2) (rc := 9) (st := 0) (kd := 4) (np := 1) (by decide +kernel) rfl ⟨_, _, rfl, rfl⟩ (Nat.le_of_ble_eq_true rfl) hv h (fun y h1 => (zin_ok (hy_X4_openClause hX) bk_X4_openClause (fun t f hf => by
      cases hf) ((e_X4_openClause _ _ _).symm.trans h1)))
  · cases h
/-! SleepWaves$Law.closeClause()V -/
def q_X4_closeClause_32 : List zEnt := zE 32 .return_ 1 :: []
def q_X4_closeClause_31 : List zEnt := zE 31 .iastore 1 :: q_X4_closeClause_32
def q_X4_closeClause_19 : List zEnt := zE 19 (.aload_n 0) 1 :: zEf 20 (.getfield 13) 3 4 2 79 (1, 25, 0) :: zE 23 (.aload_n 0) 1 :: zEf 24 (.getfield 29) 3 4 0 77 (0, 0, 0) :: zE 27 (.aload_n 0) 1 :: zEf 28 (.getfield 33) 3 4 3 80 (0, 0, 0) :: q_X4_closeClause_31
def q_X4_closeClause_16 : List zEnt := zEf 16 (.putfield 29) 3 4 0 77 (0, 0, 0) :: q_X4_closeClause_19
def q_X4_closeClause_9 : List zEnt := zE 9 (.aload_n 0) 1 :: zE 10 .dup 1 :: zEf 11 (.getfield 29) 3 4 0 77 (0, 0, 0) :: zEk 14 (.iconst 1) 1 1 :: zE 15 .iadd 1 :: q_X4_closeClause_16
def q_X4_closeClause_6 : List zEnt := zEa 6 (.if_icmp .ge 26) 3 32 :: q_X4_closeClause_9
def q_X4_closeClause_0 : List zEnt := zE 0 (.aload_n 0) 1 :: zEf 1 (.getfield 29) 3 4 0 77 (0, 0, 0) :: zEk 4 (.bipush 12) 2 12 :: q_X4_closeClause_6
def b_X4_closeClause : List (Nat × List zEnt) := [(0, q_X4_closeClause_0), (32, q_X4_closeClause_32)]
theorem bk_X4_closeClause : zchB 34 b_X4_closeClause = true := by decide +kernel
theorem hy_X4_closeClause {ρ : Type} {X : zX} (hX : zHX X) : zHY X 34 (zc0 (ρ := ρ)) := zHX.hY hX (zc0_ok X) (zmok_all 34 (by decide))
theorem t_X4_closeClause_0 {G : Nat → zH → List zAV → List zAV → Option zH} (es : List zEnt) (σ : zH) (i0 : Nat)  (w4 : Int32) : zev zc0 G 9 krV (zE 0 (.aload_n 0) 1 :: zEf 1 (.getfield 29) 3 4 0 77 (0, 0, 0) :: zEk 4 (.bipush 12) 2 w4 :: es) σ [vR 4 i0] [] = zev zc0 G 9 krV es σ [vR 4 i0] [vI w4, vI (σ.1 4 i0 0)] := rfl
theorem t_X4_closeClause_9 {G : Nat → zH → List zAV → List zAV → Option zH} (es : List zEnt) (σ : zH) (i0 : Nat)  (w14 : Int32) : zev zc0 G 9 krV (zE 9 (.aload_n 0) 1 :: zE 10 .dup 1 :: zEf 11 (.getfield 29) 3 4 0 77 (0, 0, 0) :: zEk 14 (.iconst 1) 1 w14 :: zE 15 .iadd 1 :: es) σ [vR 4 i0] [] = zev zc0 G 9 krV es σ [vR 4 i0] [vI ((σ.1 4 i0 0) + w14), vR 4 i0] := rfl
theorem t_X4_closeClause_19 {G : Nat → zH → List zAV → List zAV → Option zH} (es : List zEnt) (σ : zH) (i0 : Nat)   : zev zc0 G 9 krV (zE 19 (.aload_n 0) 1 :: zEf 20 (.getfield 13) 3 4 2 79 (1, 25, 0) :: zE 23 (.aload_n 0) 1 :: zEf 24 (.getfield 29) 3 4 0 77 (0, 0, 0) :: zE 27 (.aload_n 0) 1 :: zEf 28 (.getfield 33) 3 4 3 80 (0, 0, 0) :: es) σ [vR 4 i0] [] = zev zc0 G 9 krV es σ [vR 4 i0] [vI (σ.1 4 i0 3), vI (σ.1 4 i0 0), vR 25 (i0 + 0)] := rfl
noncomputable def d_X4_closeClause (σ : zH) (ia0 : Nat) : Option zH :=
  if (σ.1 4 ia0 0) < (12 : Int32) then
    zlet (uI σ 4 ia0 0 ((σ.1 4 ia0 0) + (1 : Int32))) fun σ1 =>
    ix (σ1.1 4 ia0 0) 13 fun j3 =>
    zlet (uI σ1 25 (ia0 + 0) j3 (σ1.1 4 ia0 3)) fun σ2 =>
    some σ2
  else
    some σ
theorem e_X4_closeClause (σ : zH) (ia0 : Nat) : d_X4_closeClause σ ia0 = zin zc0 (fun t => none) 9 krV b_X4_closeClause 0 σ [vR 4 ia0] [] := by
  unfold d_X4_closeClause
  refine Eq.symm ((zin_b (es := q_X4_closeClause_0) rfl).trans ?_)
  refine (t_X4_closeClause_0 _ _ _ _).trans ?_
  refine x_icmp.trans (pif_ge ?_ ?_)
  · refine (zrun_b (es := q_X4_closeClause_32) rfl rfl).trans ?_
    exact x_vret
  · refine (t_X4_closeClause_9 _ _ _ _).trans ?_
    refine x_pf0.trans (plt fun _ => ?_)
    refine (t_X4_closeClause_19 _ _ _).trans ?_
    refine (x_iast (N := 13) rfl rfl).trans (pix fun _ => plt fun _ => ?_)
    exact x_vret
noncomputable def g_X4_closeClause {ρ : Type} (σ : zH) (av : List zAV) (q : zH → zAV → Option ρ) : Option ρ := match av with
  | [.inr (.inr (.inl (4, ia0)))] => (d_X4_closeClause σ ia0).bind fun σ => q σ vU
  | _ => none
theorem gr_X4_closeClause {ρ : Type} (σ : zH) (ia0 : Nat) (q : zH → zAV → Option ρ) : g_X4_closeClause σ [vR 4 ia0] q = (d_X4_closeClause σ ia0).bind fun σ => q σ vU := rfl
theorem c_X4_closeClause {ρ : Type} {X : zX} (hX : zHX X) {σ : zH} {av : List zAV} {q : zH → zAV → Option ρ} {r : ρ} (h : g_X4_closeClause σ av q = some r) (hv : ∀ a ∈ av, zval X a) : zcon X 34 σ av q r := by
  unfold g_X4_closeClause at h
  split at h
  · exact zcon_V (n := 34) (ml := 1) (rc := 9) (st := 0) (kd := 4) (np := 0) (by decide +kernel) rfl ⟨_, _, rfl, rfl⟩ (Nat.le_of_ble_eq_true rfl) hv h (fun y h1 => (zin_ok (hy_X4_closeClause hX) bk_X4_closeClause (fun t f hf => by
      cases hf) ((e_X4_closeClause _ _).symm.trans h1)))
  · cases h
/-! SleepWaves$Law.emit(II)V -/
def q_X4_emit_40 : List zEnt := zE 40 .return_ 1 :: []
def q_X4_emit_37 : List zEnt := zEf 37 (.putfield 33) 3 4 3 80 (0, 0, 0) :: q_X4_emit_40
def q_X4_emit_30 : List zEnt := zE 30 (.aload_n 0) 1 :: zE 31 .dup 1 :: zEf 32 (.getfield 33) 3 4 3 80 (0, 0, 0) :: zEk 35 (.iconst 1) 1 1 :: zE 36 .iadd 1 :: q_X4_emit_37
def q_X4_emit_29 : List zEnt := zE 29 .iastore 1 :: q_X4_emit_30
def q_X4_emit_20 : List zEnt := zE 20 (.aload_n 0) 1 :: zEf 21 (.getfield 22) 3 4 5 82 (1, 27, 0) :: zE 24 (.aload_n 0) 1 :: zEf 25 (.getfield 33) 3 4 3 80 (0, 0, 0) :: zE 28 (.iload_n 2) 1 :: q_X4_emit_29
def q_X4_emit_19 : List zEnt := zE 19 .iastore 1 :: q_X4_emit_20
def q_X4_emit_10 : List zEnt := zE 10 (.aload_n 0) 1 :: zEf 11 (.getfield 19) 3 4 4 81 (1, 26, 0) :: zE 14 (.aload_n 0) 1 :: zEf 15 (.getfield 33) 3 4 3 80 (0, 0, 0) :: zE 18 (.iload_n 1) 1 :: q_X4_emit_19
def q_X4_emit_7 : List zEnt := zEa 7 (.if_icmp .ge 33) 3 40 :: q_X4_emit_10
def q_X4_emit_0 : List zEnt := zE 0 (.aload_n 0) 1 :: zEf 1 (.getfield 33) 3 4 3 80 (0, 0, 0) :: zEk 4 (.sipush 400) 3 400 :: q_X4_emit_7
def b_X4_emit : List (Nat × List zEnt) := [(0, q_X4_emit_0), (40, q_X4_emit_40)]
theorem bk_X4_emit : zchB 35 b_X4_emit = true := by decide +kernel
theorem hy_X4_emit {ρ : Type} {X : zX} (hX : zHX X) : zHY X 35 (zc0 (ρ := ρ)) := zHX.hY hX (zc0_ok X) (zmok_all 35 (by decide))
theorem t_X4_emit_0 {G : Nat → zH → List zAV → List zAV → Option zH} (es : List zEnt) (σ : zH) (i0 : Nat) (x1 : Int32) (x2 : Int32)  (w4 : Int32) : zev zc0 G 9 krV (zE 0 (.aload_n 0) 1 :: zEf 1 (.getfield 33) 3 4 3 80 (0, 0, 0) :: zEk 4 (.sipush 400) 3 w4 :: es) σ [vR 4 i0, vI x1, vI x2] [] = zev zc0 G 9 krV es σ [vR 4 i0, vI x1, vI x2] [vI w4, vI (σ.1 4 i0 3)] := rfl
theorem t_X4_emit_10 {G : Nat → zH → List zAV → List zAV → Option zH} (es : List zEnt) (σ : zH) (i0 : Nat) (x1 : Int32) (x2 : Int32)   : zev zc0 G 9 krV (zE 10 (.aload_n 0) 1 :: zEf 11 (.getfield 19) 3 4 4 81 (1, 26, 0) :: zE 14 (.aload_n 0) 1 :: zEf 15 (.getfield 33) 3 4 3 80 (0, 0, 0) :: zE 18 (.iload_n 1) 1 :: es) σ [vR 4 i0, vI x1, vI x2] [] = zev zc0 G 9 krV es σ [vR 4 i0, vI x1, vI x2] [vI x1, vI (σ.1 4 i0 3), vR 26 (i0 + 0)] := rfl
theorem t_X4_emit_20 {G : Nat → zH → List zAV → List zAV → Option zH} (es : List zEnt) (σ : zH) (i0 : Nat) (x2 : Int32) (y1 : zAV)  : zev zc0 G 9 krV (zE 20 (.aload_n 0) 1 :: zEf 21 (.getfield 22) 3 4 5 82 (1, 27, 0) :: zE 24 (.aload_n 0) 1 :: zEf 25 (.getfield 33) 3 4 3 80 (0, 0, 0) :: zE 28 (.iload_n 2) 1 :: es) σ [vR 4 i0, y1, vI x2] [] = zev zc0 G 9 krV es σ [vR 4 i0, y1, vI x2] [vI x2, vI (σ.1 4 i0 3), vR 27 (i0 + 0)] := rfl
theorem t_X4_emit_30 {G : Nat → zH → List zAV → List zAV → Option zH} (es : List zEnt) (σ : zH) (i0 : Nat) (y1 : zAV) (y2 : zAV) (w35 : Int32) : zev zc0 G 9 krV (zE 30 (.aload_n 0) 1 :: zE 31 .dup 1 :: zEf 32 (.getfield 33) 3 4 3 80 (0, 0, 0) :: zEk 35 (.iconst 1) 1 w35 :: zE 36 .iadd 1 :: es) σ [vR 4 i0, y1, y2] [] = zev zc0 G 9 krV es σ [vR 4 i0, y1, y2] [vI ((σ.1 4 i0 3) + w35), vR 4 i0] := rfl
noncomputable def d_X4_emit (σ : zH) (ia0 : Nat) (xa1 : Int32) (xa2 : Int32) : Option zH :=
  if (σ.1 4 ia0 3) < (400 : Int32) then
    ix (σ.1 4 ia0 3) 400 fun j5 =>
    zlet (uI σ 26 (ia0 + 0) j5 xa1) fun σ1 =>
    ix (σ1.1 4 ia0 3) 400 fun j4 =>
    zlet (uI σ1 27 (ia0 + 0) j4 xa2) fun σ2 =>
    zlet (uI σ2 4 ia0 3 ((σ2.1 4 ia0 3) + (1 : Int32))) fun σ3 =>
    some σ3
  else
    some σ
theorem e_X4_emit (σ : zH) (ia0 : Nat) (xa1 : Int32) (xa2 : Int32) : d_X4_emit σ ia0 xa1 xa2 = zin zc0 (fun t => none) 9 krV b_X4_emit 0 σ [vR 4 ia0, vI xa1, vI xa2] [] := by
  unfold d_X4_emit
  refine Eq.symm ((zin_b (es := q_X4_emit_0) rfl).trans ?_)
  refine (t_X4_emit_0 _ _ _ _ _ _).trans ?_
  refine x_icmp.trans (pif_ge ?_ ?_)
  · refine (zrun_b (es := q_X4_emit_40) rfl rfl).trans ?_
    exact x_vret
  · refine (t_X4_emit_10 _ _ _ _ _).trans ?_
    refine (x_iast (N := 400) rfl rfl).trans (pix fun _ => plt fun _ => ?_)
    refine (t_X4_emit_20 _ _ _ _ _).trans ?_
    refine (x_iast (N := 400) rfl rfl).trans (pix fun _ => plt fun _ => ?_)
    refine (t_X4_emit_30 _ _ _ _ _ _).trans ?_
    refine x_pf0.trans (plt fun _ => ?_)
    exact x_vret
noncomputable def g_X4_emit {ρ : Type} (σ : zH) (av : List zAV) (q : zH → zAV → Option ρ) : Option ρ := match av with
  | [.inr (.inr (.inl (4, ia0))), .inl xa1, .inl xa2] => (d_X4_emit σ ia0 xa1 xa2).bind fun σ => q σ vU
  | _ => none
theorem gr_X4_emit {ρ : Type} (σ : zH) (ia0 : Nat) (xa1 : Int32) (xa2 : Int32) (q : zH → zAV → Option ρ) : g_X4_emit σ [vR 4 ia0, vI xa1, vI xa2] q = (d_X4_emit σ ia0 xa1 xa2).bind fun σ => q σ vU := rfl
theorem c_X4_emit {ρ : Type} {X : zX} (hX : zHX X) {σ : zH} {av : List zAV} {q : zH → zAV → Option ρ} {r : ρ} (h : g_X4_emit σ av q = some r) (hv : ∀ a ∈ av, zval X a) : zcon X 35 σ av q r := by
  unfold g_X4_emit at h
  split at h
  · exact zcon_V (n := 35) (ml := 3) (rc := 9) (st := 0) (kd := 4) (np := 2) (by decide +kernel) rfl ⟨_, _, rfl, rfl⟩ (Nat.le_of_ble_eq_true rfl) hv h (fun y h1 => (zin_ok (hy_X4_emit hX) bk_X4_emit (fun t f hf => by
      cases hf) ((e_X4_emit _ _ _ _).symm.trans h1)))
  · cases h
/-! SleepWaves$LawReader.takeClause()V -/
def q_X5_takeClause_34 : List zEnt := zEa 34 (.goto 37) 3 71 :: []
def q_X5_takeClause_31 : List zEnt := zEc 31 (.invokevirtual 87) 3 61 2 34 1 :: q_X5_takeClause_34
def q_X5_takeClause_26 : List zEnt := zE 26 (.aload_n 0) 1 :: zEf 27 (.getfield 17) 3 5 0 21 (2, 7, 0) :: zEk 30 (.iconst 0) 1 0 :: q_X5_takeClause_31
def q_X5_takeClause_23 : List zEnt := zEa 23 (.ifCond .ne 14) 3 37 :: q_X5_takeClause_26
def q_X5_takeClause_20 : List zEnt := zEc 20 (.invokevirtual 81) 3 69 2 33 0 :: q_X5_takeClause_23
def q_X5_takeClause_14 : List zEnt := zE 14 (.aload_n 0) 1 :: zEf 15 (.getfield 17) 3 5 0 21 (2, 7, 0) :: (18, (.ldc 85), 2, (1, 5, 0, 0), (0, 0, 0), 0, 0, []) :: q_X5_takeClause_20
def q_X5_takeClause_11 : List zEnt := zEa 11 (.ifCond .ne 26) 3 37 :: q_X5_takeClause_14
def q_X5_takeClause_9 : List zEnt := zE 9 (.istore_n 1) 1 :: zE 10 (.iload_n 1) 1 :: q_X5_takeClause_11
def q_X5_takeClause_6 : List zEnt := zEc 6 (.invokevirtual 81) 3 69 2 33 0 :: q_X5_takeClause_9
def q_X5_takeClause_0 : List zEnt := zE 0 (.aload_n 0) 1 :: zEf 1 (.getfield 17) 3 5 0 21 (2, 7, 0) :: (4, (.ldc 79), 2, (1, 4, 0, 0), (0, 0, 0), 0, 0, []) :: q_X5_takeClause_6
def q_X5_takeClause_55 : List zEnt := zEa 55 (.goto 16) 3 71 :: []
def q_X5_takeClause_52 : List zEnt := zEc 52 (.invokevirtual 87) 3 61 2 34 1 :: q_X5_takeClause_55
def q_X5_takeClause_47 : List zEnt := zE 47 (.aload_n 0) 1 :: zEf 48 (.getfield 17) 3 5 0 21 (2, 7, 0) :: zEk 51 (.iconst 4) 1 4 :: q_X5_takeClause_52
def q_X5_takeClause_44 : List zEnt := zEa 44 (.ifCond .eq 14) 3 58 :: q_X5_takeClause_47
def q_X5_takeClause_41 : List zEnt := zEc 41 (.invokevirtual 91) 3 32 1 35 0 :: q_X5_takeClause_44
def q_X5_takeClause_38 : List zEnt := zEf 38 (.getfield 21) 3 5 1 22 (3, 4, 0) :: q_X5_takeClause_41
def q_X5_takeClause_37 : List zEnt := zE 37 (.aload_n 0) 1 :: q_X5_takeClause_38
def q_X5_takeClause_71 : List zEnt := zE 71 .return_ 1 :: []
def q_X5_takeClause_68 : List zEnt := zEf 68 (.putfield 30) 3 5 2 23 (0, 0, 0) :: q_X5_takeClause_71
def q_X5_takeClause_66 : List zEnt := zE 66 (.aload_n 0) 1 :: zEk 67 (.iconst 1) 1 1 :: q_X5_takeClause_68
def q_X5_takeClause_63 : List zEnt := zEc 63 (.invokevirtual 94) 3 33 2 36 1 :: q_X5_takeClause_66
def q_X5_takeClause_62 : List zEnt := zE 62 (.iload_n 1) 1 :: q_X5_takeClause_63
def q_X5_takeClause_59 : List zEnt := zEf 59 (.getfield 21) 3 5 1 22 (3, 4, 0) :: q_X5_takeClause_62
def q_X5_takeClause_58 : List zEnt := zE 58 (.aload_n 0) 1 :: q_X5_takeClause_59
def b_X5_takeClause : List (Nat × List zEnt) := [(0, q_X5_takeClause_0), (37, q_X5_takeClause_37), (58, q_X5_takeClause_58), (71, q_X5_takeClause_71)]
theorem bk_X5_takeClause : zchB 41 b_X5_takeClause = true := by decide +kernel
noncomputable def cc_X5_takeClause {ρ : Type} : Nat → zH → List zAV → (zH → zAV → Option ρ) → Option ρ := fun n σ av q => if n = 69 then g_X7_isWord σ av q else if n = 61 then g_X7_fail σ av q else if n = 32 then g_X4_isFull σ av q else if n = 33 then g_X4_openClause σ av q else none
theorem cs_X5_takeClause {ρ : Type} {X : zX} (hX : zHX X) : zCS X (cc_X5_takeClause (ρ := ρ)) := by
  intro n σ av q r h hv
  unfold cc_X5_takeClause at h
  by_cases e_X7_isWord : n = 69
  · rw [if_pos e_X7_isWord] at h
    subst e_X7_isWord
    exact c_X7_isWord hX h hv
  rw [if_neg e_X7_isWord] at h
  by_cases e_X7_fail : n = 61
  · rw [if_pos e_X7_fail] at h
    subst e_X7_fail
    exact c_X7_fail hX h hv
  rw [if_neg e_X7_fail] at h
  by_cases e_X4_isFull : n = 32
  · rw [if_pos e_X4_isFull] at h
    subst e_X4_isFull
    exact c_X4_isFull hX h hv
  rw [if_neg e_X4_isFull] at h
  by_cases e_X4_openClause : n = 33
  · rw [if_pos e_X4_openClause] at h
    subst e_X4_openClause
    exact c_X4_openClause hX h hv
  rw [if_neg e_X4_openClause] at h
  cases h
theorem cl_X5_takeClause_X7_isWord {ρ : Type} (σ : zH) (av : List zAV) (q : zH → zAV → Option ρ) : cc_X5_takeClause 69 σ av q = g_X7_isWord σ av q := rfl
theorem cl_X5_takeClause_X7_fail {ρ : Type} (σ : zH) (av : List zAV) (q : zH → zAV → Option ρ) : cc_X5_takeClause 61 σ av q = g_X7_fail σ av q := rfl
theorem cl_X5_takeClause_X4_isFull {ρ : Type} (σ : zH) (av : List zAV) (q : zH → zAV → Option ρ) : cc_X5_takeClause 32 σ av q = g_X4_isFull σ av q := rfl
theorem cl_X5_takeClause_X4_openClause {ρ : Type} (σ : zH) (av : List zAV) (q : zH → zAV → Option ρ) : cc_X5_takeClause 33 σ av q = g_X4_openClause σ av q := rfl
theorem hy_X5_takeClause {ρ : Type} {X : zX} (hX : zHX X) : zHY X 41 (cc_X5_takeClause (ρ := ρ)) := zHX.hY hX (cs_X5_takeClause hX) (zmok_all 41 (by decide))
def gl_X5_takeClause_37 {ρ : Type} (f : zH → Int32 → Option ρ) (σ : zH) (L st : List zAV) : Option ρ := match L, st with
  | [.inr (.inr (.inl (5, 0))), .inl x1], [] => f σ x1
  | _, _ => none
theorem glr_X5_takeClause_37 {ρ : Type} (f : zH → Int32 → Option ρ) (σ : zH) (x1 : Int32)  : gl_X5_takeClause_37 f σ [vR 5 0, vI x1] [] = f σ x1 := rfl
theorem t_X5_takeClause_0 {G : Nat → zH → List zAV → List zAV → Option zH} (es : List zEnt) (σ : zH)  (y1 : zAV)  : zev cc_X5_takeClause G 9 krV (zE 0 (.aload_n 0) 1 :: zEf 1 (.getfield 17) 3 5 0 21 (2, 7, 0) :: (4, (.ldc 79), 2, (1, 4, 0, 0), (0, 0, 0), 0, 0, []) :: es) σ [vR 5 0, y1] [] = zev cc_X5_takeClause G 9 krV es σ [vR 5 0, y1] [vR 200 4, vR 7 0] := rfl
theorem t_X5_takeClause_9 {G : Nat → zH → List zAV → List zAV → Option zH} (es : List zEnt) (σ : zH) (xs0 : Int32) (y1 : zAV)  : zev cc_X5_takeClause G 9 krV (zE 9 (.istore_n 1) 1 :: zE 10 (.iload_n 1) 1 :: es) σ [vR 5 0, y1] [vI xs0] = zev cc_X5_takeClause G 9 krV es σ [vR 5 0, vI xs0] [vI xs0] := rfl
theorem t_X5_takeClause_14 {G : Nat → zH → List zAV → List zAV → Option zH} (es : List zEnt) (σ : zH) (x1 : Int32)   : zev cc_X5_takeClause G 9 krV (zE 14 (.aload_n 0) 1 :: zEf 15 (.getfield 17) 3 5 0 21 (2, 7, 0) :: (18, (.ldc 85), 2, (1, 5, 0, 0), (0, 0, 0), 0, 0, []) :: es) σ [vR 5 0, vI x1] [] = zev cc_X5_takeClause G 9 krV es σ [vR 5 0, vI x1] [vR 200 5, vR 7 0] := rfl
theorem t_X5_takeClause_26 {G : Nat → zH → List zAV → List zAV → Option zH} (es : List zEnt) (σ : zH)  (y1 : zAV) (w30 : Int32) : zev cc_X5_takeClause G 9 krV (zE 26 (.aload_n 0) 1 :: zEf 27 (.getfield 17) 3 5 0 21 (2, 7, 0) :: zEk 30 (.iconst 0) 1 w30 :: es) σ [vR 5 0, y1] [] = zev cc_X5_takeClause G 9 krV es σ [vR 5 0, y1] [vI w30, vR 7 0] := rfl
theorem t_X5_takeClause_37 {G : Nat → zH → List zAV → List zAV → Option zH} (es : List zEnt) (σ : zH) (x1 : Int32)   : zev cc_X5_takeClause G 9 krV (zE 37 (.aload_n 0) 1 :: es) σ [vR 5 0, vI x1] [] = zev cc_X5_takeClause G 9 krV es σ [vR 5 0, vI x1] [vR 5 0] := rfl
theorem t_X5_takeClause_47 {G : Nat → zH → List zAV → List zAV → Option zH} (es : List zEnt) (σ : zH)  (y1 : zAV) (w51 : Int32) : zev cc_X5_takeClause G 9 krV (zE 47 (.aload_n 0) 1 :: zEf 48 (.getfield 17) 3 5 0 21 (2, 7, 0) :: zEk 51 (.iconst 4) 1 w51 :: es) σ [vR 5 0, y1] [] = zev cc_X5_takeClause G 9 krV es σ [vR 5 0, y1] [vI w51, vR 7 0] := rfl
theorem t_X5_takeClause_58 {G : Nat → zH → List zAV → List zAV → Option zH} (es : List zEnt) (σ : zH) (x1 : Int32)   : zev cc_X5_takeClause G 9 krV (zE 58 (.aload_n 0) 1 :: es) σ [vR 5 0, vI x1] [] = zev cc_X5_takeClause G 9 krV es σ [vR 5 0, vI x1] [vR 5 0] := rfl
theorem t_X5_takeClause_62 {G : Nat → zH → List zAV → List zAV → Option zH} (es : List zEnt) (σ : zH) (x1 : Int32) (is0 : Nat)   : zev cc_X5_takeClause G 9 krV (zE 62 (.iload_n 1) 1 :: es) σ [vR 5 0, vI x1] [vR 4 is0] = zev cc_X5_takeClause G 9 krV es σ [vR 5 0, vI x1] [vI x1, vR 4 is0] := rfl
theorem t_X5_takeClause_66 {G : Nat → zH → List zAV → List zAV → Option zH} (es : List zEnt) (σ : zH)  (y1 : zAV) (w67 : Int32) : zev cc_X5_takeClause G 9 krV (zE 66 (.aload_n 0) 1 :: zEk 67 (.iconst 1) 1 w67 :: es) σ [vR 5 0, y1] [] = zev cc_X5_takeClause G 9 krV es σ [vR 5 0, y1] [vI w67, vR 5 0] := rfl
noncomputable def j_X5_takeClause_37  (σ : zH) (x1 : Int32) : Option zH :=
  ix (σ.1 5 0 1) 6 fun j1 =>
  (d_X4_isFull σ j1).bind fun p2 =>
  if p2.2 = 0 then
    ix (p2.1.1 5 0 1) 6 fun j3 =>
    (d_X4_openClause p2.1 j3 x1).bind fun σ4 =>
    zlet (uI σ4 5 0 2 (1 : Int32)) fun σ5 =>
    some σ5
  else
    (d_X7_fail p2.1 (4 : Int32)).bind fun σ6 =>
    some σ6
theorem e_X5_takeClause_37  (σ : zH) (x1 : Int32)  : j_X5_takeClause_37 σ x1 = zin cc_X5_takeClause (fun t => none) 9 krV b_X5_takeClause 37 σ [vR 5 0, vI x1] [] := by
  unfold j_X5_takeClause_37
  refine Eq.symm ((zin_b (es := q_X5_takeClause_37) rfl).trans ?_)
  refine (t_X5_takeClause_37 _ _ _).trans ?_
  refine x_gf3.trans (pix fun _ => ?_)
  refine (x_callV rfl rfl rfl rfl).trans ((cl_X5_takeClause_X4_isFull _ _ _).trans ((gr_X4_isFull _ _ _).trans (pbd fun _ => ?_)))
  refine x_if.trans (pif_eq ?_ ?_)
  · refine (zrun_b (es := q_X5_takeClause_58) rfl rfl).trans ?_
    refine (t_X5_takeClause_58 _ _ _).trans ?_
    refine x_gf3.trans (pix fun _ => ?_)
    refine (t_X5_takeClause_62 _ _ _ _).trans ?_
    refine (x_callV rfl rfl rfl rfl).trans ((cl_X5_takeClause_X4_openClause _ _ _).trans ((gr_X4_openClause _ _ _ _).trans (pbd fun _ => ?_)))
    refine (t_X5_takeClause_66 _ _ _ _).trans ?_
    refine x_pf0.trans (plt fun _ => ?_)
    exact x_vret
  · refine (t_X5_takeClause_47 _ _ _ _).trans ?_
    refine (x_callV rfl rfl rfl rfl).trans ((cl_X5_takeClause_X7_fail _ _ _).trans ((gr_X7_fail _ _ _).trans (pbd fun _ => ?_)))
    refine x_goto.trans ?_
    refine (zrun_b (es := q_X5_takeClause_71) rfl rfl).trans ?_
    exact x_vret
theorem s_X5_takeClause_37 {X : zX} (hX : zHX X)   : ∀ σ L st r, gl_X5_takeClause_37 j_X5_takeClause_37 σ L st = some r → zGW X 41 krV 37 σ L st r := by
  intro σ L st r h
  unfold gl_X5_takeClause_37 at h
  split at h
  · exact zin_ok (hy_X5_takeClause hX) bk_X5_takeClause (fun t f hf => by
    cases hf) ((e_X5_takeClause_37 _ _).symm.trans h)
  · cases h
noncomputable def d_X5_takeClause (σ : zH)  : Option zH :=
  (d_X7_isWord σ 4).bind fun p1 =>
  if p1.2 = 0 then
    (d_X7_isWord p1.1 5).bind fun p2 =>
    if p2.2 = 0 then
      (d_X7_fail p2.1 (0 : Int32)).bind fun σ3 =>
      some σ3
    else
      j_X5_takeClause_37 p2.1 p1.2
  else
    j_X5_takeClause_37 p1.1 p1.2
theorem e_X5_takeClause (σ : zH)  : d_X5_takeClause σ = zin cc_X5_takeClause (fun t => if t = 37 then some (gl_X5_takeClause_37 j_X5_takeClause_37) else none) 9 krV b_X5_takeClause 0 σ [vR 5 0, vU] [] := by
  unfold d_X5_takeClause
  refine Eq.symm ((zin_b (es := q_X5_takeClause_0) rfl).trans ?_)
  refine (t_X5_takeClause_0 _ _ _).trans ?_
  refine (x_callV rfl rfl rfl rfl).trans ((cl_X5_takeClause_X7_isWord _ _ _).trans ((gr_X7_isWord _ _ _).trans (pbd fun _ => ?_)))
  refine (t_X5_takeClause_9 _ _ _ _).trans ?_
  refine x_if.trans (pif_ne ?_ ?_)
  · exact (zrun_c rfl).trans (glr_X5_takeClause_37 _ _ _)
  · refine (t_X5_takeClause_14 _ _ _).trans ?_
    refine (x_callV rfl rfl rfl rfl).trans ((cl_X5_takeClause_X7_isWord _ _ _).trans ((gr_X7_isWord _ _ _).trans (pbd fun _ => ?_)))
    refine x_if.trans (pif_ne ?_ ?_)
    · exact (zrun_c rfl).trans (glr_X5_takeClause_37 _ _ _)
    · refine (t_X5_takeClause_26 _ _ _ _).trans ?_
      refine (x_callV rfl rfl rfl rfl).trans ((cl_X5_takeClause_X7_fail _ _ _).trans ((gr_X7_fail _ _ _).trans (pbd fun _ => ?_)))
      refine x_goto.trans ?_
      refine (zrun_b (es := q_X5_takeClause_71) rfl rfl).trans ?_
      exact x_vret
noncomputable def g_X5_takeClause {ρ : Type} (σ : zH) (av : List zAV) (q : zH → zAV → Option ρ) : Option ρ := match av with
  | [.inr (.inr (.inl (5, 0)))] => (d_X5_takeClause σ).bind fun σ => q σ vU
  | _ => none
theorem gr_X5_takeClause {ρ : Type} (σ : zH)  (q : zH → zAV → Option ρ) : g_X5_takeClause σ [vR 5 0] q = (d_X5_takeClause σ).bind fun σ => q σ vU := rfl
theorem c_X5_takeClause {ρ : Type} {X : zX} (hX : zHX X) {σ : zH} {av : List zAV} {q : zH → zAV → Option ρ} {r : ρ} (h : g_X5_takeClause σ av q = some r) (hv : ∀ a ∈ av, zval X a) : zcon X 41 σ av q r := by
  unfold g_X5_takeClause at h
  split at h
  · exact zcon_V (n := 41) (ml := 2) (rc := 9) (st := 0) (kd := 5) (np := 0) (by decide +kernel) rfl ⟨_, _, rfl, rfl⟩ (Nat.le_of_ble_eq_true rfl) hv h (fun y h1 => (zin_ok (hy_X5_takeClause hX) bk_X5_takeClause (fun t f hf => by
      by_cases e37 : t = 37
      · rw [if_pos e37] at hf; subst e37; cases hf; exact (s_X5_takeClause_37 hX)
      rw [if_neg e37] at hf
      cases hf) ((e_X5_takeClause _).symm.trans h1)))
  · cases h
/-! SleepWaves$LawReader.wordNumber()I -/
def q_X5_wordNumber_13 : List zEnt := zE 13 .ireturn 1 :: []
def q_X5_wordNumber_12 : List zEnt := zEk 12 (.iconst 0) 1 0 :: q_X5_wordNumber_13
def q_X5_wordNumber_9 : List zEnt := zEa 9 (.ifCond .eq 5) 3 14 :: q_X5_wordNumber_12
def q_X5_wordNumber_6 : List zEnt := zEc 6 (.invokevirtual 81) 3 69 2 33 0 :: q_X5_wordNumber_9
def q_X5_wordNumber_0 : List zEnt := zE 0 (.aload_n 0) 1 :: zEf 1 (.getfield 17) 3 5 0 21 (2, 7, 0) :: (4, (.ldc 151), 2, (1, 7, 0, 0), (0, 0, 0), 0, 0, []) :: q_X5_wordNumber_6
def q_X5_wordNumber_27 : List zEnt := zE 27 .ireturn 1 :: []
def q_X5_wordNumber_26 : List zEnt := zEk 26 (.iconst 1) 1 1 :: q_X5_wordNumber_27
def q_X5_wordNumber_23 : List zEnt := zEa 23 (.ifCond .eq 5) 3 28 :: q_X5_wordNumber_26
def q_X5_wordNumber_20 : List zEnt := zEc 20 (.invokevirtual 81) 3 69 2 33 0 :: q_X5_wordNumber_23
def q_X5_wordNumber_14 : List zEnt := zE 14 (.aload_n 0) 1 :: zEf 15 (.getfield 17) 3 5 0 21 (2, 7, 0) :: (18, (.ldc 155), 2, (1, 8, 0, 0), (0, 0, 0), 0, 0, []) :: q_X5_wordNumber_20
def q_X5_wordNumber_41 : List zEnt := zE 41 .ireturn 1 :: []
def q_X5_wordNumber_40 : List zEnt := zEk 40 (.iconst 2) 1 2 :: q_X5_wordNumber_41
def q_X5_wordNumber_37 : List zEnt := zEa 37 (.ifCond .eq 5) 3 42 :: q_X5_wordNumber_40
def q_X5_wordNumber_34 : List zEnt := zEc 34 (.invokevirtual 81) 3 69 2 33 0 :: q_X5_wordNumber_37
def q_X5_wordNumber_28 : List zEnt := zE 28 (.aload_n 0) 1 :: zEf 29 (.getfield 17) 3 5 0 21 (2, 7, 0) :: (32, (.ldc 157), 2, (1, 9, 0, 0), (0, 0, 0), 0, 0, []) :: q_X5_wordNumber_34
def q_X5_wordNumber_55 : List zEnt := zE 55 .ireturn 1 :: []
def q_X5_wordNumber_54 : List zEnt := zEk 54 (.iconst 3) 1 3 :: q_X5_wordNumber_55
def q_X5_wordNumber_51 : List zEnt := zEa 51 (.ifCond .eq 5) 3 56 :: q_X5_wordNumber_54
def q_X5_wordNumber_48 : List zEnt := zEc 48 (.invokevirtual 81) 3 69 2 33 0 :: q_X5_wordNumber_51
def q_X5_wordNumber_42 : List zEnt := zE 42 (.aload_n 0) 1 :: zEf 43 (.getfield 17) 3 5 0 21 (2, 7, 0) :: (46, (.ldc 159), 2, (1, 10, 0, 0), (0, 0, 0), 0, 0, []) :: q_X5_wordNumber_48
def q_X5_wordNumber_69 : List zEnt := zE 69 .ireturn 1 :: []
def q_X5_wordNumber_68 : List zEnt := zEk 68 (.iconst 4) 1 4 :: q_X5_wordNumber_69
def q_X5_wordNumber_65 : List zEnt := zEa 65 (.ifCond .eq 5) 3 70 :: q_X5_wordNumber_68
def q_X5_wordNumber_62 : List zEnt := zEc 62 (.invokevirtual 81) 3 69 2 33 0 :: q_X5_wordNumber_65
def q_X5_wordNumber_56 : List zEnt := zE 56 (.aload_n 0) 1 :: zEf 57 (.getfield 17) 3 5 0 21 (2, 7, 0) :: (60, (.ldc 161), 2, (1, 11, 0, 0), (0, 0, 0), 0, 0, []) :: q_X5_wordNumber_62
def q_X5_wordNumber_83 : List zEnt := zE 83 .ireturn 1 :: []
def q_X5_wordNumber_82 : List zEnt := zEk 82 (.iconst 5) 1 5 :: q_X5_wordNumber_83
def q_X5_wordNumber_79 : List zEnt := zEa 79 (.ifCond .eq 5) 3 84 :: q_X5_wordNumber_82
def q_X5_wordNumber_76 : List zEnt := zEc 76 (.invokevirtual 81) 3 69 2 33 0 :: q_X5_wordNumber_79
def q_X5_wordNumber_70 : List zEnt := zE 70 (.aload_n 0) 1 :: zEf 71 (.getfield 17) 3 5 0 21 (2, 7, 0) :: (74, (.ldc 163), 2, (1, 12, 0, 0), (0, 0, 0), 0, 0, []) :: q_X5_wordNumber_76
def q_X5_wordNumber_98 : List zEnt := zE 98 .ireturn 1 :: []
def q_X5_wordNumber_96 : List zEnt := zEk 96 (.bipush 6) 2 6 :: q_X5_wordNumber_98
def q_X5_wordNumber_93 : List zEnt := zEa 93 (.ifCond .eq 6) 3 99 :: q_X5_wordNumber_96
def q_X5_wordNumber_90 : List zEnt := zEc 90 (.invokevirtual 81) 3 69 2 33 0 :: q_X5_wordNumber_93
def q_X5_wordNumber_84 : List zEnt := zE 84 (.aload_n 0) 1 :: zEf 85 (.getfield 17) 3 5 0 21 (2, 7, 0) :: (88, (.ldc 165), 2, (1, 13, 0, 0), (0, 0, 0), 0, 0, []) :: q_X5_wordNumber_90
def q_X5_wordNumber_113 : List zEnt := zE 113 .ireturn 1 :: []
def q_X5_wordNumber_111 : List zEnt := zEk 111 (.bipush 7) 2 7 :: q_X5_wordNumber_113
def q_X5_wordNumber_108 : List zEnt := zEa 108 (.ifCond .eq 6) 3 114 :: q_X5_wordNumber_111
def q_X5_wordNumber_105 : List zEnt := zEc 105 (.invokevirtual 81) 3 69 2 33 0 :: q_X5_wordNumber_108
def q_X5_wordNumber_99 : List zEnt := zE 99 (.aload_n 0) 1 :: zEf 100 (.getfield 17) 3 5 0 21 (2, 7, 0) :: (103, (.ldc 167), 2, (1, 14, 0, 0), (0, 0, 0), 0, 0, []) :: q_X5_wordNumber_105
def q_X5_wordNumber_128 : List zEnt := zE 128 .ireturn 1 :: []
def q_X5_wordNumber_126 : List zEnt := zEk 126 (.bipush 8) 2 8 :: q_X5_wordNumber_128
def q_X5_wordNumber_123 : List zEnt := zEa 123 (.ifCond .eq 6) 3 129 :: q_X5_wordNumber_126
def q_X5_wordNumber_120 : List zEnt := zEc 120 (.invokevirtual 81) 3 69 2 33 0 :: q_X5_wordNumber_123
def q_X5_wordNumber_114 : List zEnt := zE 114 (.aload_n 0) 1 :: zEf 115 (.getfield 17) 3 5 0 21 (2, 7, 0) :: (118, (.ldc 169), 2, (1, 15, 0, 0), (0, 0, 0), 0, 0, []) :: q_X5_wordNumber_120
def q_X5_wordNumber_143 : List zEnt := zE 143 .ireturn 1 :: []
def q_X5_wordNumber_141 : List zEnt := zEk 141 (.bipush 9) 2 9 :: q_X5_wordNumber_143
def q_X5_wordNumber_138 : List zEnt := zEa 138 (.ifCond .eq 6) 3 144 :: q_X5_wordNumber_141
def q_X5_wordNumber_135 : List zEnt := zEc 135 (.invokevirtual 81) 3 69 2 33 0 :: q_X5_wordNumber_138
def q_X5_wordNumber_129 : List zEnt := zE 129 (.aload_n 0) 1 :: zEf 130 (.getfield 17) 3 5 0 21 (2, 7, 0) :: (133, (.ldc 171), 2, (1, 16, 0, 0), (0, 0, 0), 0, 0, []) :: q_X5_wordNumber_135
def q_X5_wordNumber_145 : List zEnt := zE 145 .ireturn 1 :: []
def q_X5_wordNumber_144 : List zEnt := zEk 144 (.iconst (-1)) 1 (-1) :: q_X5_wordNumber_145
def b_X5_wordNumber : List (Nat × List zEnt) := [(0, q_X5_wordNumber_0), (14, q_X5_wordNumber_14), (28, q_X5_wordNumber_28), (42, q_X5_wordNumber_42), (56, q_X5_wordNumber_56), (70, q_X5_wordNumber_70), (84, q_X5_wordNumber_84), (99, q_X5_wordNumber_99), (114, q_X5_wordNumber_114), (129, q_X5_wordNumber_129), (144, q_X5_wordNumber_144)]
theorem bk_X5_wordNumber : zchB 50 b_X5_wordNumber = true := by decide +kernel
noncomputable def cc_X5_wordNumber {ρ : Type} : Nat → zH → List zAV → (zH → zAV → Option ρ) → Option ρ := fun n σ av q => if n = 69 then g_X7_isWord σ av q else none
theorem cs_X5_wordNumber {ρ : Type} {X : zX} (hX : zHX X) : zCS X (cc_X5_wordNumber (ρ := ρ)) := by
  intro n σ av q r h hv
  unfold cc_X5_wordNumber at h
  by_cases e_X7_isWord : n = 69
  · rw [if_pos e_X7_isWord] at h
    subst e_X7_isWord
    exact c_X7_isWord hX h hv
  rw [if_neg e_X7_isWord] at h
  cases h
theorem cl_X5_wordNumber_X7_isWord {ρ : Type} (σ : zH) (av : List zAV) (q : zH → zAV → Option ρ) : cc_X5_wordNumber 69 σ av q = g_X7_isWord σ av q := rfl
theorem hy_X5_wordNumber {ρ : Type} {X : zX} (hX : zHX X) : zHY X 50 (cc_X5_wordNumber (ρ := ρ)) := zHX.hY hX (cs_X5_wordNumber hX) (zmok_all 50 (by decide))
theorem t_X5_wordNumber_0 {G : Nat → zH → List zAV → List zAV → Option (zH × Int32)} (es : List zEnt) (σ : zH)    : zev cc_X5_wordNumber G 0 krI (zE 0 (.aload_n 0) 1 :: zEf 1 (.getfield 17) 3 5 0 21 (2, 7, 0) :: (4, (.ldc 151), 2, (1, 7, 0, 0), (0, 0, 0), 0, 0, []) :: es) σ [vR 5 0] [] = zev cc_X5_wordNumber G 0 krI es σ [vR 5 0] [vR 200 7, vR 7 0] := rfl
theorem t_X5_wordNumber_12 {G : Nat → zH → List zAV → List zAV → Option (zH × Int32)} (es : List zEnt) (σ : zH)  (y0 : zAV) (w12 : Int32) : zev cc_X5_wordNumber G 0 krI (zEk 12 (.iconst 0) 1 w12 :: es) σ [y0] [] = zev cc_X5_wordNumber G 0 krI es σ [y0] [vI w12] := rfl
theorem t_X5_wordNumber_14 {G : Nat → zH → List zAV → List zAV → Option (zH × Int32)} (es : List zEnt) (σ : zH)    : zev cc_X5_wordNumber G 0 krI (zE 14 (.aload_n 0) 1 :: zEf 15 (.getfield 17) 3 5 0 21 (2, 7, 0) :: (18, (.ldc 155), 2, (1, 8, 0, 0), (0, 0, 0), 0, 0, []) :: es) σ [vR 5 0] [] = zev cc_X5_wordNumber G 0 krI es σ [vR 5 0] [vR 200 8, vR 7 0] := rfl
theorem t_X5_wordNumber_26 {G : Nat → zH → List zAV → List zAV → Option (zH × Int32)} (es : List zEnt) (σ : zH)  (y0 : zAV) (w26 : Int32) : zev cc_X5_wordNumber G 0 krI (zEk 26 (.iconst 1) 1 w26 :: es) σ [y0] [] = zev cc_X5_wordNumber G 0 krI es σ [y0] [vI w26] := rfl
theorem t_X5_wordNumber_28 {G : Nat → zH → List zAV → List zAV → Option (zH × Int32)} (es : List zEnt) (σ : zH)    : zev cc_X5_wordNumber G 0 krI (zE 28 (.aload_n 0) 1 :: zEf 29 (.getfield 17) 3 5 0 21 (2, 7, 0) :: (32, (.ldc 157), 2, (1, 9, 0, 0), (0, 0, 0), 0, 0, []) :: es) σ [vR 5 0] [] = zev cc_X5_wordNumber G 0 krI es σ [vR 5 0] [vR 200 9, vR 7 0] := rfl
theorem t_X5_wordNumber_40 {G : Nat → zH → List zAV → List zAV → Option (zH × Int32)} (es : List zEnt) (σ : zH)  (y0 : zAV) (w40 : Int32) : zev cc_X5_wordNumber G 0 krI (zEk 40 (.iconst 2) 1 w40 :: es) σ [y0] [] = zev cc_X5_wordNumber G 0 krI es σ [y0] [vI w40] := rfl
theorem t_X5_wordNumber_42 {G : Nat → zH → List zAV → List zAV → Option (zH × Int32)} (es : List zEnt) (σ : zH)    : zev cc_X5_wordNumber G 0 krI (zE 42 (.aload_n 0) 1 :: zEf 43 (.getfield 17) 3 5 0 21 (2, 7, 0) :: (46, (.ldc 159), 2, (1, 10, 0, 0), (0, 0, 0), 0, 0, []) :: es) σ [vR 5 0] [] = zev cc_X5_wordNumber G 0 krI es σ [vR 5 0] [vR 200 10, vR 7 0] := rfl
theorem t_X5_wordNumber_54 {G : Nat → zH → List zAV → List zAV → Option (zH × Int32)} (es : List zEnt) (σ : zH)  (y0 : zAV) (w54 : Int32) : zev cc_X5_wordNumber G 0 krI (zEk 54 (.iconst 3) 1 w54 :: es) σ [y0] [] = zev cc_X5_wordNumber G 0 krI es σ [y0] [vI w54] := rfl
theorem t_X5_wordNumber_56 {G : Nat → zH → List zAV → List zAV → Option (zH × Int32)} (es : List zEnt) (σ : zH)    : zev cc_X5_wordNumber G 0 krI (zE 56 (.aload_n 0) 1 :: zEf 57 (.getfield 17) 3 5 0 21 (2, 7, 0) :: (60, (.ldc 161), 2, (1, 11, 0, 0), (0, 0, 0), 0, 0, []) :: es) σ [vR 5 0] [] = zev cc_X5_wordNumber G 0 krI es σ [vR 5 0] [vR 200 11, vR 7 0] := rfl
theorem t_X5_wordNumber_68 {G : Nat → zH → List zAV → List zAV → Option (zH × Int32)} (es : List zEnt) (σ : zH)  (y0 : zAV) (w68 : Int32) : zev cc_X5_wordNumber G 0 krI (zEk 68 (.iconst 4) 1 w68 :: es) σ [y0] [] = zev cc_X5_wordNumber G 0 krI es σ [y0] [vI w68] := rfl
theorem t_X5_wordNumber_70 {G : Nat → zH → List zAV → List zAV → Option (zH × Int32)} (es : List zEnt) (σ : zH)    : zev cc_X5_wordNumber G 0 krI (zE 70 (.aload_n 0) 1 :: zEf 71 (.getfield 17) 3 5 0 21 (2, 7, 0) :: (74, (.ldc 163), 2, (1, 12, 0, 0), (0, 0, 0), 0, 0, []) :: es) σ [vR 5 0] [] = zev cc_X5_wordNumber G 0 krI es σ [vR 5 0] [vR 200 12, vR 7 0] := rfl
theorem t_X5_wordNumber_82 {G : Nat → zH → List zAV → List zAV → Option (zH × Int32)} (es : List zEnt) (σ : zH)  (y0 : zAV) (w82 : Int32) : zev cc_X5_wordNumber G 0 krI (zEk 82 (.iconst 5) 1 w82 :: es) σ [y0] [] = zev cc_X5_wordNumber G 0 krI es σ [y0] [vI w82] := rfl
theorem t_X5_wordNumber_84 {G : Nat → zH → List zAV → List zAV → Option (zH × Int32)} (es : List zEnt) (σ : zH)    : zev cc_X5_wordNumber G 0 krI (zE 84 (.aload_n 0) 1 :: zEf 85 (.getfield 17) 3 5 0 21 (2, 7, 0) :: (88, (.ldc 165), 2, (1, 13, 0, 0), (0, 0, 0), 0, 0, []) :: es) σ [vR 5 0] [] = zev cc_X5_wordNumber G 0 krI es σ [vR 5 0] [vR 200 13, vR 7 0] := rfl
theorem t_X5_wordNumber_96 {G : Nat → zH → List zAV → List zAV → Option (zH × Int32)} (es : List zEnt) (σ : zH)  (y0 : zAV) (w96 : Int32) : zev cc_X5_wordNumber G 0 krI (zEk 96 (.bipush 6) 2 w96 :: es) σ [y0] [] = zev cc_X5_wordNumber G 0 krI es σ [y0] [vI w96] := rfl
theorem t_X5_wordNumber_99 {G : Nat → zH → List zAV → List zAV → Option (zH × Int32)} (es : List zEnt) (σ : zH)    : zev cc_X5_wordNumber G 0 krI (zE 99 (.aload_n 0) 1 :: zEf 100 (.getfield 17) 3 5 0 21 (2, 7, 0) :: (103, (.ldc 167), 2, (1, 14, 0, 0), (0, 0, 0), 0, 0, []) :: es) σ [vR 5 0] [] = zev cc_X5_wordNumber G 0 krI es σ [vR 5 0] [vR 200 14, vR 7 0] := rfl
theorem t_X5_wordNumber_111 {G : Nat → zH → List zAV → List zAV → Option (zH × Int32)} (es : List zEnt) (σ : zH)  (y0 : zAV) (w111 : Int32) : zev cc_X5_wordNumber G 0 krI (zEk 111 (.bipush 7) 2 w111 :: es) σ [y0] [] = zev cc_X5_wordNumber G 0 krI es σ [y0] [vI w111] := rfl
theorem t_X5_wordNumber_114 {G : Nat → zH → List zAV → List zAV → Option (zH × Int32)} (es : List zEnt) (σ : zH)    : zev cc_X5_wordNumber G 0 krI (zE 114 (.aload_n 0) 1 :: zEf 115 (.getfield 17) 3 5 0 21 (2, 7, 0) :: (118, (.ldc 169), 2, (1, 15, 0, 0), (0, 0, 0), 0, 0, []) :: es) σ [vR 5 0] [] = zev cc_X5_wordNumber G 0 krI es σ [vR 5 0] [vR 200 15, vR 7 0] := rfl
theorem t_X5_wordNumber_126 {G : Nat → zH → List zAV → List zAV → Option (zH × Int32)} (es : List zEnt) (σ : zH)  (y0 : zAV) (w126 : Int32) : zev cc_X5_wordNumber G 0 krI (zEk 126 (.bipush 8) 2 w126 :: es) σ [y0] [] = zev cc_X5_wordNumber G 0 krI es σ [y0] [vI w126] := rfl
theorem t_X5_wordNumber_129 {G : Nat → zH → List zAV → List zAV → Option (zH × Int32)} (es : List zEnt) (σ : zH)    : zev cc_X5_wordNumber G 0 krI (zE 129 (.aload_n 0) 1 :: zEf 130 (.getfield 17) 3 5 0 21 (2, 7, 0) :: (133, (.ldc 171), 2, (1, 16, 0, 0), (0, 0, 0), 0, 0, []) :: es) σ [vR 5 0] [] = zev cc_X5_wordNumber G 0 krI es σ [vR 5 0] [vR 200 16, vR 7 0] := rfl
theorem t_X5_wordNumber_141 {G : Nat → zH → List zAV → List zAV → Option (zH × Int32)} (es : List zEnt) (σ : zH)  (y0 : zAV) (w141 : Int32) : zev cc_X5_wordNumber G 0 krI (zEk 141 (.bipush 9) 2 w141 :: es) σ [y0] [] = zev cc_X5_wordNumber G 0 krI es σ [y0] [vI w141] := rfl
theorem t_X5_wordNumber_144 {G : Nat → zH → List zAV → List zAV → Option (zH × Int32)} (es : List zEnt) (σ : zH)  (y0 : zAV) (w144 : Int32) : zev cc_X5_wordNumber G 0 krI (zEk 144 (.iconst (-1)) 1 w144 :: es) σ [y0] [] = zev cc_X5_wordNumber G 0 krI es σ [y0] [vI w144] := rfl
noncomputable def d_X5_wordNumber (σ : zH)  : Option (zH × Int32) :=
  (d_X7_isWord σ 7).bind fun p1 =>
  if p1.2 = 0 then
    (d_X7_isWord p1.1 8).bind fun p2 =>
    if p2.2 = 0 then
      (d_X7_isWord p2.1 9).bind fun p3 =>
      if p3.2 = 0 then
        (d_X7_isWord p3.1 10).bind fun p4 =>
        if p4.2 = 0 then
          (d_X7_isWord p4.1 11).bind fun p5 =>
          if p5.2 = 0 then
            (d_X7_isWord p5.1 12).bind fun p6 =>
            if p6.2 = 0 then
              (d_X7_isWord p6.1 13).bind fun p7 =>
              if p7.2 = 0 then
                (d_X7_isWord p7.1 14).bind fun p8 =>
                if p8.2 = 0 then
                  (d_X7_isWord p8.1 15).bind fun p9 =>
                  if p9.2 = 0 then
                    (d_X7_isWord p9.1 16).bind fun p10 =>
                    if p10.2 = 0 then
                      some (p10.1, (-1 : Int32))
                    else
                      some (p10.1, (9 : Int32))
                  else
                    some (p9.1, (8 : Int32))
                else
                  some (p8.1, (7 : Int32))
              else
                some (p7.1, (6 : Int32))
            else
              some (p6.1, (5 : Int32))
          else
            some (p5.1, (4 : Int32))
        else
          some (p4.1, (3 : Int32))
      else
        some (p3.1, (2 : Int32))
    else
      some (p2.1, (1 : Int32))
  else
    some (p1.1, (0 : Int32))
theorem e_X5_wordNumber (σ : zH)  : d_X5_wordNumber σ = zin cc_X5_wordNumber (fun t => none) 0 krI b_X5_wordNumber 0 σ [vR 5 0] [] := by
  unfold d_X5_wordNumber
  refine Eq.symm ((zin_b (es := q_X5_wordNumber_0) rfl).trans ?_)
  refine (t_X5_wordNumber_0 _ _).trans ?_
  refine (x_callV rfl rfl rfl rfl).trans ((cl_X5_wordNumber_X7_isWord _ _ _).trans ((gr_X7_isWord _ _ _).trans (pbd fun _ => ?_)))
  refine x_if.trans (pif_eq ?_ ?_)
  · refine (zrun_b (es := q_X5_wordNumber_14) rfl rfl).trans ?_
    refine (t_X5_wordNumber_14 _ _).trans ?_
    refine (x_callV rfl rfl rfl rfl).trans ((cl_X5_wordNumber_X7_isWord _ _ _).trans ((gr_X7_isWord _ _ _).trans (pbd fun _ => ?_)))
    refine x_if.trans (pif_eq ?_ ?_)
    · refine (zrun_b (es := q_X5_wordNumber_28) rfl rfl).trans ?_
      refine (t_X5_wordNumber_28 _ _).trans ?_
      refine (x_callV rfl rfl rfl rfl).trans ((cl_X5_wordNumber_X7_isWord _ _ _).trans ((gr_X7_isWord _ _ _).trans (pbd fun _ => ?_)))
      refine x_if.trans (pif_eq ?_ ?_)
      · refine (zrun_b (es := q_X5_wordNumber_42) rfl rfl).trans ?_
        refine (t_X5_wordNumber_42 _ _).trans ?_
        refine (x_callV rfl rfl rfl rfl).trans ((cl_X5_wordNumber_X7_isWord _ _ _).trans ((gr_X7_isWord _ _ _).trans (pbd fun _ => ?_)))
        refine x_if.trans (pif_eq ?_ ?_)
        · refine (zrun_b (es := q_X5_wordNumber_56) rfl rfl).trans ?_
          refine (t_X5_wordNumber_56 _ _).trans ?_
          refine (x_callV rfl rfl rfl rfl).trans ((cl_X5_wordNumber_X7_isWord _ _ _).trans ((gr_X7_isWord _ _ _).trans (pbd fun _ => ?_)))
          refine x_if.trans (pif_eq ?_ ?_)
          · refine (zrun_b (es := q_X5_wordNumber_70) rfl rfl).trans ?_
            refine (t_X5_wordNumber_70 _ _).trans ?_
            refine (x_callV rfl rfl rfl rfl).trans ((cl_X5_wordNumber_X7_isWord _ _ _).trans ((gr_X7_isWord _ _ _).trans (pbd fun _ => ?_)))
            refine x_if.trans (pif_eq ?_ ?_)
            · refine (zrun_b (es := q_X5_wordNumber_84) rfl rfl).trans ?_
              refine (t_X5_wordNumber_84 _ _).trans ?_
              refine (x_callV rfl rfl rfl rfl).trans ((cl_X5_wordNumber_X7_isWord _ _ _).trans ((gr_X7_isWord _ _ _).trans (pbd fun _ => ?_)))
              refine x_if.trans (pif_eq ?_ ?_)
              · refine (zrun_b (es := q_X5_wordNumber_99) rfl rfl).trans ?_
                refine (t_X5_wordNumber_99 _ _).trans ?_
                refine (x_callV rfl rfl rfl rfl).trans ((cl_X5_wordNumber_X7_isWord _ _ _).trans ((gr_X7_isWord _ _ _).trans (pbd fun _ => ?_)))
                refine x_if.trans (pif_eq ?_ ?_)
                · refine (zrun_b (es := q_X5_wordNumber_114) rfl rfl).trans ?_
                  refine (t_X5_wordNumber_114 _ _).trans ?_
                  refine (x_callV rfl rfl rfl rfl).trans ((cl_X5_wordNumber_X7_isWord _ _ _).trans ((gr_X7_isWord _ _ _).trans (pbd fun _ => ?_)))
                  refine x_if.trans (pif_eq ?_ ?_)
                  · refine (zrun_b (es := q_X5_wordNumber_129) rfl rfl).trans ?_
                    refine (t_X5_wordNumber_129 _ _).trans ?_
                    refine (x_callV rfl rfl rfl rfl).trans ((cl_X5_wordNumber_X7_isWord _ _ _).trans ((gr_X7_isWord _ _ _).trans (pbd fun _ => ?_)))
                    refine x_if.trans (pif_eq ?_ ?_)
                    · refine (zrun_b (es := q_X5_wordNumber_144) rfl rfl).trans ?_
                      refine (t_X5_wordNumber_144 _ _ _ _).trans ?_
                      exact x_iret
                    · refine (t_X5_wordNumber_141 _ _ _ _).trans ?_
                      exact x_iret
                  · refine (t_X5_wordNumber_126 _ _ _ _).trans ?_
                    exact x_iret
                · refine (t_X5_wordNumber_111 _ _ _ _).trans ?_
                  exact x_iret
              · refine (t_X5_wordNumber_96 _ _ _ _).trans ?_
                exact x_iret
            · refine (t_X5_wordNumber_82 _ _ _ _).trans ?_
              exact x_iret
          · refine (t_X5_wordNumber_68 _ _ _ _).trans ?_
            exact x_iret
        · refine (t_X5_wordNumber_54 _ _ _ _).trans ?_
          exact x_iret
      · refine (t_X5_wordNumber_40 _ _ _ _).trans ?_
        exact x_iret
    · refine (t_X5_wordNumber_26 _ _ _ _).trans ?_
      exact x_iret
  · refine (t_X5_wordNumber_12 _ _ _ _).trans ?_
    exact x_iret
noncomputable def g_X5_wordNumber {ρ : Type} (σ : zH) (av : List zAV) (q : zH → zAV → Option ρ) : Option ρ := match av with
  | [.inr (.inr (.inl (5, 0)))] => (d_X5_wordNumber σ).bind fun p => q p.1 (vI p.2)
  | _ => none
theorem gr_X5_wordNumber {ρ : Type} (σ : zH)  (q : zH → zAV → Option ρ) : g_X5_wordNumber σ [vR 5 0] q = (d_X5_wordNumber σ).bind fun p => q p.1 (vI p.2) := rfl
theorem c_X5_wordNumber {ρ : Type} {X : zX} (hX : zHX X) {σ : zH} {av : List zAV} {q : zH → zAV → Option ρ} {r : ρ} (h : g_X5_wordNumber σ av q = some r) (hv : ∀ a ∈ av, zval X a) : zcon X 50 σ av q r := by
  unfold g_X5_wordNumber at h
  split at h
  · exact zcon_I (n := 50) (ml := 1) (rc := 0) (st := 0) (kd := 5) (np := 0) (by decide +kernel) (by decide) ⟨_, _, rfl, rfl⟩ (Nat.le_of_ble_eq_true rfl) hv h (fun y h1 => (zin_ok (hy_X5_wordNumber hX) bk_X5_wordNumber (fun t f hf => by
      cases hf) ((e_X5_wordNumber _).symm.trans h1)))
  · cases h
/-! SleepWaves$LawReader.isPartTooMany()Z -/
def q_X5_isPartTooMany_20 : List zEnt := zEa 20 (.goto 4) 3 24 :: []
def q_X5_isPartTooMany_19 : List zEnt := zEk 19 (.iconst 1) 1 1 :: q_X5_isPartTooMany_20
def q_X5_isPartTooMany_16 : List zEnt := zEa 16 (.if_icmp .le 7) 3 23 :: q_X5_isPartTooMany_19
def q_X5_isPartTooMany_10 : List zEnt := zE 10 (.aload_n 0) 1 :: zEf 11 (.getfield 34) 3 5 4 25 (0, 0, 0) :: zEk 14 (.bipush 60) 2 60 :: q_X5_isPartTooMany_16
def q_X5_isPartTooMany_7 : List zEnt := zEf 7 (.putfield 34) 3 5 4 25 (0, 0, 0) :: q_X5_isPartTooMany_10
def q_X5_isPartTooMany_0 : List zEnt := zE 0 (.aload_n 0) 1 :: zE 1 .dup 1 :: zEf 2 (.getfield 34) 3 5 4 25 (0, 0, 0) :: zEk 5 (.iconst 1) 1 1 :: zE 6 .iadd 1 :: q_X5_isPartTooMany_7
def q_X5_isPartTooMany_24 : List zEnt := zE 24 .ireturn 1 :: []
def q_X5_isPartTooMany_23 : List zEnt := zEk 23 (.iconst 0) 1 0 :: q_X5_isPartTooMany_24
def b_X5_isPartTooMany : List (Nat × List zEnt) := [(0, q_X5_isPartTooMany_0), (23, q_X5_isPartTooMany_23), (24, q_X5_isPartTooMany_24)]
theorem bk_X5_isPartTooMany : zchB 44 b_X5_isPartTooMany = true := by decide +kernel
theorem hy_X5_isPartTooMany {ρ : Type} {X : zX} (hX : zHX X) : zHY X 44 (zc0 (ρ := ρ)) := zHX.hY hX (zc0_ok X) (zmok_all 44 (by decide))
theorem t_X5_isPartTooMany_0 {G : Nat → zH → List zAV → List zAV → Option (zH × Int32)} (es : List zEnt) (σ : zH)   (w5 : Int32) : zev zc0 G 1 krI (zE 0 (.aload_n 0) 1 :: zE 1 .dup 1 :: zEf 2 (.getfield 34) 3 5 4 25 (0, 0, 0) :: zEk 5 (.iconst 1) 1 w5 :: zE 6 .iadd 1 :: es) σ [vR 5 0] [] = zev zc0 G 1 krI es σ [vR 5 0] [vI ((σ.1 5 0 4) + w5), vR 5 0] := rfl
theorem t_X5_isPartTooMany_10 {G : Nat → zH → List zAV → List zAV → Option (zH × Int32)} (es : List zEnt) (σ : zH)   (w14 : Int32) : zev zc0 G 1 krI (zE 10 (.aload_n 0) 1 :: zEf 11 (.getfield 34) 3 5 4 25 (0, 0, 0) :: zEk 14 (.bipush 60) 2 w14 :: es) σ [vR 5 0] [] = zev zc0 G 1 krI es σ [vR 5 0] [vI w14, vI (σ.1 5 0 4)] := rfl
theorem t_X5_isPartTooMany_19 {G : Nat → zH → List zAV → List zAV → Option (zH × Int32)} (es : List zEnt) (σ : zH)  (y0 : zAV) (w19 : Int32) : zev zc0 G 1 krI (zEk 19 (.iconst 1) 1 w19 :: es) σ [y0] [] = zev zc0 G 1 krI es σ [y0] [vI w19] := rfl
theorem t_X5_isPartTooMany_23 {G : Nat → zH → List zAV → List zAV → Option (zH × Int32)} (es : List zEnt) (σ : zH)  (y0 : zAV) (w23 : Int32) : zev zc0 G 1 krI (zEk 23 (.iconst 0) 1 w23 :: es) σ [y0] [] = zev zc0 G 1 krI es σ [y0] [vI w23] := rfl
noncomputable def d_X5_isPartTooMany (σ : zH)  : Option (zH × Int32) :=
  zlet (uI σ 5 0 4 ((σ.1 5 0 4) + (1 : Int32))) fun σ1 =>
  if (60 : Int32) < (σ1.1 5 0 4) then
    some (σ1, (1 : Int32))
  else
    some (σ1, (0 : Int32))
theorem e_X5_isPartTooMany (σ : zH)  : d_X5_isPartTooMany σ = zin zc0 (fun t => none) 1 krI b_X5_isPartTooMany 0 σ [vR 5 0] [] := by
  unfold d_X5_isPartTooMany
  refine Eq.symm ((zin_b (es := q_X5_isPartTooMany_0) rfl).trans ?_)
  refine (t_X5_isPartTooMany_0 _ _ _).trans ?_
  refine x_pf0.trans (plt fun _ => ?_)
  refine (t_X5_isPartTooMany_10 _ _ _).trans ?_
  refine x_icmp.trans (pif_le ?_ ?_)
  · refine (zrun_b (es := q_X5_isPartTooMany_23) rfl rfl).trans ?_
    refine (t_X5_isPartTooMany_23 _ _ _ _).trans ?_
    exact x_zret.trans (tv_l (by decide +kernel))
  · refine (t_X5_isPartTooMany_19 _ _ _ _).trans ?_
    refine x_goto.trans ?_
    refine (zrun_b (es := q_X5_isPartTooMany_24) rfl rfl).trans ?_
    exact x_zret.trans (tv_l (by decide +kernel))
noncomputable def g_X5_isPartTooMany {ρ : Type} (σ : zH) (av : List zAV) (q : zH → zAV → Option ρ) : Option ρ := match av with
  | [.inr (.inr (.inl (5, 0)))] => (d_X5_isPartTooMany σ).bind fun p => q p.1 (vI p.2)
  | _ => none
theorem gr_X5_isPartTooMany {ρ : Type} (σ : zH)  (q : zH → zAV → Option ρ) : g_X5_isPartTooMany σ [vR 5 0] q = (d_X5_isPartTooMany σ).bind fun p => q p.1 (vI p.2) := rfl
theorem c_X5_isPartTooMany {ρ : Type} {X : zX} (hX : zHX X) {σ : zH} {av : List zAV} {q : zH → zAV → Option ρ} {r : ρ} (h : g_X5_isPartTooMany σ av q = some r) (hv : ∀ a ∈ av, zval X a) : zcon X 44 σ av q r := by
  unfold g_X5_isPartTooMany at h
  split at h
  · exact zcon_I (n := 44) (ml := 1) (rc := 1) (st := 0) (kd := 5) (np := 0) (by decide +kernel) (by decide) ⟨_, _, rfl, rfl⟩ (Nat.le_of_ble_eq_true rfl) hv h (fun y h1 => (zin_ok (hy_X5_isPartTooMany hX) bk_X5_isPartTooMany (fun t f hf => by
      cases hf) ((e_X5_isPartTooMany _).symm.trans h1)))
  · cases h
/-! SleepWaves$LawReader.takeValue()V -/
def q_X5_takeValue_15 : List zEnt := zEa 15 (.goto 4) 3 19 :: []
def q_X5_takeValue_12 : List zEnt := zEc 12 (.invokevirtual 114) 3 50 1 40 0 :: q_X5_takeValue_15
def q_X5_takeValue_11 : List zEnt := zE 11 (.aload_n 0) 1 :: q_X5_takeValue_12
def q_X5_takeValue_8 : List zEnt := zEa 8 (.if_icmp .ne 10) 3 18 :: q_X5_takeValue_11
def q_X5_takeValue_0 : List zEnt := zE 0 (.aload_n 0) 1 :: zEf 1 (.getfield 17) 3 5 0 21 (2, 7, 0) :: zEf 4 (.getfield 111) 3 7 3 10 (0, 0, 0) :: zEk 7 (.iconst 2) 1 2 :: q_X5_takeValue_8
def q_X5_takeValue_18 : List zEnt := zEk 18 (.iconst (-1)) 1 (-1) :: [zE 19 .nop 0]
def q_X5_takeValue_44 : List zEnt := zEa 44 (.goto 88) 3 132 :: []
def q_X5_takeValue_41 : List zEnt := zEc 41 (.invokevirtual 87) 3 61 2 34 1 :: q_X5_takeValue_44
def q_X5_takeValue_36 : List zEnt := zE 36 (.aload_n 0) 1 :: zEf 37 (.getfield 17) 3 5 0 21 (2, 7, 0) :: zEk 40 (.iconst 0) 1 0 :: q_X5_takeValue_41
def q_X5_takeValue_33 : List zEnt := zEa 33 (.if_icmp .ne 14) 3 47 :: q_X5_takeValue_36
def q_X5_takeValue_31 : List zEnt := zE 31 (.iload_n 1) 1 :: zEk 32 (.iconst (-1)) 1 (-1) :: q_X5_takeValue_33
def q_X5_takeValue_28 : List zEnt := zEa 28 (.if_icmp .eq 19) 3 47 :: q_X5_takeValue_31
def q_X5_takeValue_19 : List zEnt := zE 19 (.istore_n 1) 1 :: zE 20 (.aload_n 0) 1 :: zEf 21 (.getfield 17) 3 5 0 21 (2, 7, 0) :: zEf 24 (.getfield 111) 3 7 3 10 (0, 0, 0) :: zEk 27 (.iconst 1) 1 1 :: q_X5_takeValue_28
def q_X5_takeValue_77 : List zEnt := zEa 77 (.goto 55) 3 132 :: []
def q_X5_takeValue_74 : List zEnt := zEc 74 (.invokevirtual 87) 3 61 2 34 1 :: q_X5_takeValue_77
def q_X5_takeValue_69 : List zEnt := zE 69 (.aload_n 0) 1 :: zEf 70 (.getfield 17) 3 5 0 21 (2, 7, 0) :: zEk 73 (.iconst 1) 1 1 :: q_X5_takeValue_74
def q_X5_takeValue_66 : List zEnt := zEa 66 (.if_icmp .ne 14) 3 80 :: q_X5_takeValue_69
def q_X5_takeValue_58 : List zEnt := zE 58 (.aload_n 0) 1 :: zEf 59 (.getfield 17) 3 5 0 21 (2, 7, 0) :: zEf 62 (.getfield 118) 3 7 4 12 (0, 0, 0) :: zEk 65 (.iconst (-1)) 1 (-1) :: q_X5_takeValue_66
def q_X5_takeValue_55 : List zEnt := zEa 55 (.if_icmp .ne 25) 3 80 :: q_X5_takeValue_58
def q_X5_takeValue_47 : List zEnt := zE 47 (.aload_n 0) 1 :: zEf 48 (.getfield 17) 3 5 0 21 (2, 7, 0) :: zEf 51 (.getfield 111) 3 7 3 10 (0, 0, 0) :: zEk 54 (.iconst 1) 1 1 :: q_X5_takeValue_55
def q_X5_takeValue_95 : List zEnt := zEa 95 (.goto 37) 3 132 :: []
def q_X5_takeValue_92 : List zEnt := zEc 92 (.invokevirtual 87) 3 61 2 34 1 :: q_X5_takeValue_95
def q_X5_takeValue_87 : List zEnt := zE 87 (.aload_n 0) 1 :: zEf 88 (.getfield 17) 3 5 0 21 (2, 7, 0) :: zEk 91 (.iconst 3) 1 3 :: q_X5_takeValue_92
def q_X5_takeValue_84 : List zEnt := zEa 84 (.ifCond .eq 14) 3 98 :: q_X5_takeValue_87
def q_X5_takeValue_81 : List zEnt := zEc 81 (.invokevirtual 121) 3 44 1 41 0 :: q_X5_takeValue_84
def q_X5_takeValue_80 : List zEnt := zE 80 (.aload_n 0) 1 :: q_X5_takeValue_81
def q_X5_takeValue_119 : List zEnt := zEa 119 (.goto 13) 3 132 :: []
def q_X5_takeValue_116 : List zEnt := zEc 116 (.invokevirtual 124) 3 35 3 42 1 :: q_X5_takeValue_119
def q_X5_takeValue_107 : List zEnt := zEk 107 (.bipush 70) 2 70 :: zE 109 (.aload_n 0) 1 :: zEf 110 (.getfield 17) 3 5 0 21 (2, 7, 0) :: zEf 113 (.getfield 118) 3 7 4 12 (0, 0, 0) :: q_X5_takeValue_116
def q_X5_takeValue_104 : List zEnt := zEf 104 (.getfield 21) 3 5 1 22 (3, 4, 0) :: q_X5_takeValue_107
def q_X5_takeValue_103 : List zEnt := zE 103 (.aload_n 0) 1 :: q_X5_takeValue_104
def q_X5_takeValue_100 : List zEnt := zEa 100 (.if_icmp .ne 22) 3 122 :: q_X5_takeValue_103
def q_X5_takeValue_98 : List zEnt := zE 98 (.iload_n 1) 1 :: zEk 99 (.iconst (-1)) 1 (-1) :: q_X5_takeValue_100
def q_X5_takeValue_129 : List zEnt := zEc 129 (.invokevirtual 124) 3 35 3 42 1 :: [zE 132 .nop 0]
def q_X5_takeValue_126 : List zEnt := zEk 126 (.bipush 71) 2 71 :: zE 128 (.iload_n 1) 1 :: q_X5_takeValue_129
def q_X5_takeValue_123 : List zEnt := zEf 123 (.getfield 21) 3 5 1 22 (3, 4, 0) :: q_X5_takeValue_126
def q_X5_takeValue_122 : List zEnt := zE 122 (.aload_n 0) 1 :: q_X5_takeValue_123
def q_X5_takeValue_137 : List zEnt := zE 137 .return_ 1 :: []
def q_X5_takeValue_134 : List zEnt := zEf 134 (.putfield 30) 3 5 2 23 (0, 0, 0) :: q_X5_takeValue_137
def q_X5_takeValue_132 : List zEnt := zE 132 (.aload_n 0) 1 :: zEk 133 (.iconst 3) 1 3 :: q_X5_takeValue_134
def b_X5_takeValue : List (Nat × List zEnt) := [(0, q_X5_takeValue_0), (18, q_X5_takeValue_18), (19, q_X5_takeValue_19), (47, q_X5_takeValue_47), (80, q_X5_takeValue_80), (98, q_X5_takeValue_98), (122, q_X5_takeValue_122), (132, q_X5_takeValue_132)]
theorem bk_X5_takeValue : zchB 43 b_X5_takeValue = true := by decide +kernel
noncomputable def cc_X5_takeValue {ρ : Type} : Nat → zH → List zAV → (zH → zAV → Option ρ) → Option ρ := fun n σ av q => if n = 50 then g_X5_wordNumber σ av q else if n = 61 then g_X7_fail σ av q else if n = 44 then g_X5_isPartTooMany σ av q else if n = 35 then g_X4_emit σ av q else none
theorem cs_X5_takeValue {ρ : Type} {X : zX} (hX : zHX X) : zCS X (cc_X5_takeValue (ρ := ρ)) := by
  intro n σ av q r h hv
  unfold cc_X5_takeValue at h
  by_cases e_X5_wordNumber : n = 50
  · rw [if_pos e_X5_wordNumber] at h
    subst e_X5_wordNumber
    exact c_X5_wordNumber hX h hv
  rw [if_neg e_X5_wordNumber] at h
  by_cases e_X7_fail : n = 61
  · rw [if_pos e_X7_fail] at h
    subst e_X7_fail
    exact c_X7_fail hX h hv
  rw [if_neg e_X7_fail] at h
  by_cases e_X5_isPartTooMany : n = 44
  · rw [if_pos e_X5_isPartTooMany] at h
    subst e_X5_isPartTooMany
    exact c_X5_isPartTooMany hX h hv
  rw [if_neg e_X5_isPartTooMany] at h
  by_cases e_X4_emit : n = 35
  · rw [if_pos e_X4_emit] at h
    subst e_X4_emit
    exact c_X4_emit hX h hv
  rw [if_neg e_X4_emit] at h
  cases h
theorem cl_X5_takeValue_X5_wordNumber {ρ : Type} (σ : zH) (av : List zAV) (q : zH → zAV → Option ρ) : cc_X5_takeValue 50 σ av q = g_X5_wordNumber σ av q := rfl
theorem cl_X5_takeValue_X7_fail {ρ : Type} (σ : zH) (av : List zAV) (q : zH → zAV → Option ρ) : cc_X5_takeValue 61 σ av q = g_X7_fail σ av q := rfl
theorem cl_X5_takeValue_X5_isPartTooMany {ρ : Type} (σ : zH) (av : List zAV) (q : zH → zAV → Option ρ) : cc_X5_takeValue 44 σ av q = g_X5_isPartTooMany σ av q := rfl
theorem cl_X5_takeValue_X4_emit {ρ : Type} (σ : zH) (av : List zAV) (q : zH → zAV → Option ρ) : cc_X5_takeValue 35 σ av q = g_X4_emit σ av q := rfl
theorem hy_X5_takeValue {ρ : Type} {X : zX} (hX : zHX X) : zHY X 43 (cc_X5_takeValue (ρ := ρ)) := zHX.hY hX (cs_X5_takeValue hX) (zmok_all 43 (by decide))
def gl_X5_takeValue_19 {ρ : Type} (f : zH → Int32 → Option ρ) (σ : zH) (L st : List zAV) : Option ρ := match L, st with
  | [.inr (.inr (.inl (5, 0))), _], [.inl xs0] => f σ xs0
  | _, _ => none
def gl_X5_takeValue_47 {ρ : Type} (f : zH → Int32 → Option ρ) (σ : zH) (L st : List zAV) : Option ρ := match L, st with
  | [.inr (.inr (.inl (5, 0))), .inl x1], [] => f σ x1
  | _, _ => none
def gl_X5_takeValue_80 {ρ : Type} (f : zH → Int32 → Option ρ) (σ : zH) (L st : List zAV) : Option ρ := match L, st with
  | [.inr (.inr (.inl (5, 0))), .inl x1], [] => f σ x1
  | _, _ => none
def gl_X5_takeValue_132 {ρ : Type} (f : zH → Option ρ) (σ : zH) (L st : List zAV) : Option ρ := match L, st with
  | [.inr (.inr (.inl (5, 0))), _], [] => f σ
  | _, _ => none
theorem glr_X5_takeValue_19 {ρ : Type} (f : zH → Int32 → Option ρ) (σ : zH) (xs0 : Int32) (y1 : zAV) : gl_X5_takeValue_19 f σ [vR 5 0, y1] [vI xs0] = f σ xs0 := rfl
theorem glr_X5_takeValue_47 {ρ : Type} (f : zH → Int32 → Option ρ) (σ : zH) (x1 : Int32)  : gl_X5_takeValue_47 f σ [vR 5 0, vI x1] [] = f σ x1 := rfl
theorem glr_X5_takeValue_80 {ρ : Type} (f : zH → Int32 → Option ρ) (σ : zH) (x1 : Int32)  : gl_X5_takeValue_80 f σ [vR 5 0, vI x1] [] = f σ x1 := rfl
theorem glr_X5_takeValue_132 {ρ : Type} (f : zH → Option ρ) (σ : zH)  (y1 : zAV) : gl_X5_takeValue_132 f σ [vR 5 0, y1] [] = f σ := rfl
theorem t_X5_takeValue_0 {G : Nat → zH → List zAV → List zAV → Option zH} (es : List zEnt) (σ : zH)  (y1 : zAV) (w7 : Int32) : zev cc_X5_takeValue G 9 krV (zE 0 (.aload_n 0) 1 :: zEf 1 (.getfield 17) 3 5 0 21 (2, 7, 0) :: zEf 4 (.getfield 111) 3 7 3 10 (0, 0, 0) :: zEk 7 (.iconst 2) 1 w7 :: es) σ [vR 5 0, y1] [] = zev cc_X5_takeValue G 9 krV es σ [vR 5 0, y1] [vI w7, vI (σ.1 7 0 3)] := rfl
theorem t_X5_takeValue_11 {G : Nat → zH → List zAV → List zAV → Option zH} (es : List zEnt) (σ : zH)  (y1 : zAV)  : zev cc_X5_takeValue G 9 krV (zE 11 (.aload_n 0) 1 :: es) σ [vR 5 0, y1] [] = zev cc_X5_takeValue G 9 krV es σ [vR 5 0, y1] [vR 5 0] := rfl
theorem t_X5_takeValue_18 {G : Nat → zH → List zAV → List zAV → Option zH} (es : List zEnt) (σ : zH)  (y1 : zAV) (w18 : Int32) : zev cc_X5_takeValue G 9 krV (zEk 18 (.iconst (-1)) 1 w18 :: es) σ [vR 5 0, y1] [] = zev cc_X5_takeValue G 9 krV es σ [vR 5 0, y1] [vI w18] := rfl
theorem t_X5_takeValue_19 {G : Nat → zH → List zAV → List zAV → Option zH} (es : List zEnt) (σ : zH) (xs0 : Int32) (y1 : zAV) (w27 : Int32) : zev cc_X5_takeValue G 9 krV (zE 19 (.istore_n 1) 1 :: zE 20 (.aload_n 0) 1 :: zEf 21 (.getfield 17) 3 5 0 21 (2, 7, 0) :: zEf 24 (.getfield 111) 3 7 3 10 (0, 0, 0) :: zEk 27 (.iconst 1) 1 w27 :: es) σ [vR 5 0, y1] [vI xs0] = zev cc_X5_takeValue G 9 krV es σ [vR 5 0, vI xs0] [vI w27, vI (σ.1 7 0 3)] := rfl
theorem t_X5_takeValue_31 {G : Nat → zH → List zAV → List zAV → Option zH} (es : List zEnt) (σ : zH) (x1 : Int32)  (w32 : Int32) : zev cc_X5_takeValue G 9 krV (zE 31 (.iload_n 1) 1 :: zEk 32 (.iconst (-1)) 1 w32 :: es) σ [vR 5 0, vI x1] [] = zev cc_X5_takeValue G 9 krV es σ [vR 5 0, vI x1] [vI w32, vI x1] := rfl
theorem t_X5_takeValue_36 {G : Nat → zH → List zAV → List zAV → Option zH} (es : List zEnt) (σ : zH)  (y1 : zAV) (w40 : Int32) : zev cc_X5_takeValue G 9 krV (zE 36 (.aload_n 0) 1 :: zEf 37 (.getfield 17) 3 5 0 21 (2, 7, 0) :: zEk 40 (.iconst 0) 1 w40 :: es) σ [vR 5 0, y1] [] = zev cc_X5_takeValue G 9 krV es σ [vR 5 0, y1] [vI w40, vR 7 0] := rfl
theorem t_X5_takeValue_47 {G : Nat → zH → List zAV → List zAV → Option zH} (es : List zEnt) (σ : zH) (x1 : Int32)  (w54 : Int32) : zev cc_X5_takeValue G 9 krV (zE 47 (.aload_n 0) 1 :: zEf 48 (.getfield 17) 3 5 0 21 (2, 7, 0) :: zEf 51 (.getfield 111) 3 7 3 10 (0, 0, 0) :: zEk 54 (.iconst 1) 1 w54 :: es) σ [vR 5 0, vI x1] [] = zev cc_X5_takeValue G 9 krV es σ [vR 5 0, vI x1] [vI w54, vI (σ.1 7 0 3)] := rfl
theorem t_X5_takeValue_58 {G : Nat → zH → List zAV → List zAV → Option zH} (es : List zEnt) (σ : zH) (x1 : Int32)  (w65 : Int32) : zev cc_X5_takeValue G 9 krV (zE 58 (.aload_n 0) 1 :: zEf 59 (.getfield 17) 3 5 0 21 (2, 7, 0) :: zEf 62 (.getfield 118) 3 7 4 12 (0, 0, 0) :: zEk 65 (.iconst (-1)) 1 w65 :: es) σ [vR 5 0, vI x1] [] = zev cc_X5_takeValue G 9 krV es σ [vR 5 0, vI x1] [vI w65, vI (σ.1 7 0 4)] := rfl
theorem t_X5_takeValue_69 {G : Nat → zH → List zAV → List zAV → Option zH} (es : List zEnt) (σ : zH)  (y1 : zAV) (w73 : Int32) : zev cc_X5_takeValue G 9 krV (zE 69 (.aload_n 0) 1 :: zEf 70 (.getfield 17) 3 5 0 21 (2, 7, 0) :: zEk 73 (.iconst 1) 1 w73 :: es) σ [vR 5 0, y1] [] = zev cc_X5_takeValue G 9 krV es σ [vR 5 0, y1] [vI w73, vR 7 0] := rfl
theorem t_X5_takeValue_80 {G : Nat → zH → List zAV → List zAV → Option zH} (es : List zEnt) (σ : zH) (x1 : Int32)   : zev cc_X5_takeValue G 9 krV (zE 80 (.aload_n 0) 1 :: es) σ [vR 5 0, vI x1] [] = zev cc_X5_takeValue G 9 krV es σ [vR 5 0, vI x1] [vR 5 0] := rfl
theorem t_X5_takeValue_87 {G : Nat → zH → List zAV → List zAV → Option zH} (es : List zEnt) (σ : zH)  (y1 : zAV) (w91 : Int32) : zev cc_X5_takeValue G 9 krV (zE 87 (.aload_n 0) 1 :: zEf 88 (.getfield 17) 3 5 0 21 (2, 7, 0) :: zEk 91 (.iconst 3) 1 w91 :: es) σ [vR 5 0, y1] [] = zev cc_X5_takeValue G 9 krV es σ [vR 5 0, y1] [vI w91, vR 7 0] := rfl
theorem t_X5_takeValue_98 {G : Nat → zH → List zAV → List zAV → Option zH} (es : List zEnt) (σ : zH) (x1 : Int32)  (w99 : Int32) : zev cc_X5_takeValue G 9 krV (zE 98 (.iload_n 1) 1 :: zEk 99 (.iconst (-1)) 1 w99 :: es) σ [vR 5 0, vI x1] [] = zev cc_X5_takeValue G 9 krV es σ [vR 5 0, vI x1] [vI w99, vI x1] := rfl
theorem t_X5_takeValue_103 {G : Nat → zH → List zAV → List zAV → Option zH} (es : List zEnt) (σ : zH)  (y1 : zAV)  : zev cc_X5_takeValue G 9 krV (zE 103 (.aload_n 0) 1 :: es) σ [vR 5 0, y1] [] = zev cc_X5_takeValue G 9 krV es σ [vR 5 0, y1] [vR 5 0] := rfl
theorem t_X5_takeValue_107 {G : Nat → zH → List zAV → List zAV → Option zH} (es : List zEnt) (σ : zH) (is0 : Nat) (y1 : zAV) (w107 : Int32) : zev cc_X5_takeValue G 9 krV (zEk 107 (.bipush 70) 2 w107 :: zE 109 (.aload_n 0) 1 :: zEf 110 (.getfield 17) 3 5 0 21 (2, 7, 0) :: zEf 113 (.getfield 118) 3 7 4 12 (0, 0, 0) :: es) σ [vR 5 0, y1] [vR 4 is0] = zev cc_X5_takeValue G 9 krV es σ [vR 5 0, y1] [vI (σ.1 7 0 4), vI w107, vR 4 is0] := rfl
theorem t_X5_takeValue_122 {G : Nat → zH → List zAV → List zAV → Option zH} (es : List zEnt) (σ : zH) (x1 : Int32)   : zev cc_X5_takeValue G 9 krV (zE 122 (.aload_n 0) 1 :: es) σ [vR 5 0, vI x1] [] = zev cc_X5_takeValue G 9 krV es σ [vR 5 0, vI x1] [vR 5 0] := rfl
theorem t_X5_takeValue_126 {G : Nat → zH → List zAV → List zAV → Option zH} (es : List zEnt) (σ : zH) (x1 : Int32) (is0 : Nat)  (w126 : Int32) : zev cc_X5_takeValue G 9 krV (zEk 126 (.bipush 71) 2 w126 :: zE 128 (.iload_n 1) 1 :: es) σ [vR 5 0, vI x1] [vR 4 is0] = zev cc_X5_takeValue G 9 krV es σ [vR 5 0, vI x1] [vI x1, vI w126, vR 4 is0] := rfl
theorem t_X5_takeValue_132 {G : Nat → zH → List zAV → List zAV → Option zH} (es : List zEnt) (σ : zH)  (y1 : zAV) (w133 : Int32) : zev cc_X5_takeValue G 9 krV (zE 132 (.aload_n 0) 1 :: zEk 133 (.iconst 3) 1 w133 :: es) σ [vR 5 0, y1] [] = zev cc_X5_takeValue G 9 krV es σ [vR 5 0, y1] [vI w133, vR 5 0] := rfl
noncomputable def j_X5_takeValue_132  (σ : zH)  : Option zH :=
  zlet (uI σ 5 0 2 (3 : Int32)) fun σ1 =>
  some σ1
theorem e_X5_takeValue_132  (σ : zH)  (y1 : zAV) : j_X5_takeValue_132 σ = zin cc_X5_takeValue (fun t => none) 9 krV b_X5_takeValue 132 σ [vR 5 0, y1] [] := by
  unfold j_X5_takeValue_132
  refine Eq.symm ((zin_b (es := q_X5_takeValue_132) rfl).trans ?_)
  refine (t_X5_takeValue_132 _ _ _ _).trans ?_
  refine x_pf0.trans (plt fun _ => ?_)
  exact x_vret
theorem s_X5_takeValue_132 {X : zX} (hX : zHX X)   : ∀ σ L st r, gl_X5_takeValue_132 j_X5_takeValue_132 σ L st = some r → zGW X 43 krV 132 σ L st r := by
  intro σ L st r h
  unfold gl_X5_takeValue_132 at h
  split at h
  · exact zin_ok (hy_X5_takeValue hX) bk_X5_takeValue (fun t f hf => by
    cases hf) ((e_X5_takeValue_132 _ _).symm.trans h)
  · cases h
noncomputable def j_X5_takeValue_80  (σ : zH) (x1 : Int32) : Option zH :=
  (d_X5_isPartTooMany σ).bind fun p1 =>
  if p1.2 = 0 then
    if x1 = (-1 : Int32) then
      ix (p1.1.1 5 0 1) 6 fun j4 =>
      (d_X4_emit p1.1 j4 (70 : Int32) (p1.1.1 7 0 4)).bind fun σ5 =>
      j_X5_takeValue_132 σ5
    else
      ix (p1.1.1 5 0 1) 6 fun j2 =>
      (d_X4_emit p1.1 j2 (71 : Int32) x1).bind fun σ3 =>
      j_X5_takeValue_132 σ3
  else
    (d_X7_fail p1.1 (3 : Int32)).bind fun σ6 =>
    j_X5_takeValue_132 σ6
theorem e_X5_takeValue_80  (σ : zH) (x1 : Int32)  : j_X5_takeValue_80 σ x1 = zin cc_X5_takeValue (fun t => if t = 132 then some (gl_X5_takeValue_132 j_X5_takeValue_132) else none) 9 krV b_X5_takeValue 80 σ [vR 5 0, vI x1] [] := by
  unfold j_X5_takeValue_80
  refine Eq.symm ((zin_b (es := q_X5_takeValue_80) rfl).trans ?_)
  refine (t_X5_takeValue_80 _ _ _).trans ?_
  refine (x_callV rfl rfl rfl rfl).trans ((cl_X5_takeValue_X5_isPartTooMany _ _ _).trans ((gr_X5_isPartTooMany _ _).trans (pbd fun _ => ?_)))
  refine x_if.trans (pif_eq ?_ ?_)
  · refine (zrun_b (es := q_X5_takeValue_98) rfl rfl).trans ?_
    refine (t_X5_takeValue_98 _ _ _ _).trans ?_
    refine x_icmp.trans (pif_ne ?_ ?_)
    · refine (zrun_b (es := q_X5_takeValue_122) rfl rfl).trans ?_
      refine (t_X5_takeValue_122 _ _ _).trans ?_
      refine x_gf3.trans (pix fun _ => ?_)
      refine (t_X5_takeValue_126 _ _ _ _ _).trans ?_
      refine (x_callV rfl rfl rfl rfl).trans ((cl_X5_takeValue_X4_emit _ _ _).trans ((gr_X4_emit _ _ _ _ _).trans (pbd fun _ => ?_)))
      refine x_cut.trans ?_
      exact (zrun_c rfl).trans (glr_X5_takeValue_132 _ _ _)
    · refine (t_X5_takeValue_103 _ _ _).trans ?_
      refine x_gf3.trans (pix fun _ => ?_)
      refine (t_X5_takeValue_107 _ _ _ _ _).trans ?_
      refine (x_callV rfl rfl rfl rfl).trans ((cl_X5_takeValue_X4_emit _ _ _).trans ((gr_X4_emit _ _ _ _ _).trans (pbd fun _ => ?_)))
      refine x_goto.trans ?_
      exact (zrun_c rfl).trans (glr_X5_takeValue_132 _ _ _)
  · refine (t_X5_takeValue_87 _ _ _ _).trans ?_
    refine (x_callV rfl rfl rfl rfl).trans ((cl_X5_takeValue_X7_fail _ _ _).trans ((gr_X7_fail _ _ _).trans (pbd fun _ => ?_)))
    refine x_goto.trans ?_
    exact (zrun_c rfl).trans (glr_X5_takeValue_132 _ _ _)
theorem s_X5_takeValue_80 {X : zX} (hX : zHX X)   : ∀ σ L st r, gl_X5_takeValue_80 j_X5_takeValue_80 σ L st = some r → zGW X 43 krV 80 σ L st r := by
  intro σ L st r h
  unfold gl_X5_takeValue_80 at h
  split at h
  · exact zin_ok (hy_X5_takeValue hX) bk_X5_takeValue (fun t f hf => by
    by_cases e132 : t = 132
    · rw [if_pos e132] at hf; subst e132; cases hf; exact (s_X5_takeValue_132 hX)
    rw [if_neg e132] at hf
    cases hf) ((e_X5_takeValue_80 _ _).symm.trans h)
  · cases h
noncomputable def j_X5_takeValue_47  (σ : zH) (x1 : Int32) : Option zH :=
  if (σ.1 7 0 3) = (1 : Int32) then
    if (σ.1 7 0 4) = (-1 : Int32) then
      (d_X7_fail σ (1 : Int32)).bind fun σ1 =>
      j_X5_takeValue_132 σ1
    else
      j_X5_takeValue_80 σ x1
  else
    j_X5_takeValue_80 σ x1
theorem e_X5_takeValue_47  (σ : zH) (x1 : Int32)  : j_X5_takeValue_47 σ x1 = zin cc_X5_takeValue (fun t => if t = 80 then some (gl_X5_takeValue_80 j_X5_takeValue_80) else if t = 132 then some (gl_X5_takeValue_132 j_X5_takeValue_132) else none) 9 krV b_X5_takeValue 47 σ [vR 5 0, vI x1] [] := by
  unfold j_X5_takeValue_47
  refine Eq.symm ((zin_b (es := q_X5_takeValue_47) rfl).trans ?_)
  refine (t_X5_takeValue_47 _ _ _ _).trans ?_
  refine x_icmp.trans (pif_ne ?_ ?_)
  · exact (zrun_c rfl).trans (glr_X5_takeValue_80 _ _ _)
  · refine (t_X5_takeValue_58 _ _ _ _).trans ?_
    refine x_icmp.trans (pif_ne ?_ ?_)
    · exact (zrun_c rfl).trans (glr_X5_takeValue_80 _ _ _)
    · refine (t_X5_takeValue_69 _ _ _ _).trans ?_
      refine (x_callV rfl rfl rfl rfl).trans ((cl_X5_takeValue_X7_fail _ _ _).trans ((gr_X7_fail _ _ _).trans (pbd fun _ => ?_)))
      refine x_goto.trans ?_
      exact (zrun_c rfl).trans (glr_X5_takeValue_132 _ _ _)
theorem s_X5_takeValue_47 {X : zX} (hX : zHX X)   : ∀ σ L st r, gl_X5_takeValue_47 j_X5_takeValue_47 σ L st = some r → zGW X 43 krV 47 σ L st r := by
  intro σ L st r h
  unfold gl_X5_takeValue_47 at h
  split at h
  · exact zin_ok (hy_X5_takeValue hX) bk_X5_takeValue (fun t f hf => by
    by_cases e80 : t = 80
    · rw [if_pos e80] at hf; subst e80; cases hf; exact (s_X5_takeValue_80 hX)
    rw [if_neg e80] at hf
    by_cases e132 : t = 132
    · rw [if_pos e132] at hf; subst e132; cases hf; exact (s_X5_takeValue_132 hX)
    rw [if_neg e132] at hf
    cases hf) ((e_X5_takeValue_47 _ _).symm.trans h)
  · cases h
noncomputable def j_X5_takeValue_19  (σ : zH) (xs0 : Int32) : Option zH :=
  if (σ.1 7 0 3) = (1 : Int32) then
    j_X5_takeValue_47 σ xs0
  else
    if xs0 = (-1 : Int32) then
      (d_X7_fail σ (0 : Int32)).bind fun σ1 =>
      j_X5_takeValue_132 σ1
    else
      j_X5_takeValue_47 σ xs0
theorem e_X5_takeValue_19  (σ : zH) (xs0 : Int32) (y1 : zAV) : j_X5_takeValue_19 σ xs0 = zin cc_X5_takeValue (fun t => if t = 47 then some (gl_X5_takeValue_47 j_X5_takeValue_47) else if t = 132 then some (gl_X5_takeValue_132 j_X5_takeValue_132) else none) 9 krV b_X5_takeValue 19 σ [vR 5 0, y1] [vI xs0] := by
  unfold j_X5_takeValue_19
  refine Eq.symm ((zin_b (es := q_X5_takeValue_19) rfl).trans ?_)
  refine (t_X5_takeValue_19 _ _ _ _ _).trans ?_
  refine x_icmp.trans (pif_eq ?_ ?_)
  · exact (zrun_c rfl).trans (glr_X5_takeValue_47 _ _ _)
  · refine (t_X5_takeValue_31 _ _ _ _).trans ?_
    refine x_icmp.trans (pif_ne ?_ ?_)
    · exact (zrun_c rfl).trans (glr_X5_takeValue_47 _ _ _)
    · refine (t_X5_takeValue_36 _ _ _ _).trans ?_
      refine (x_callV rfl rfl rfl rfl).trans ((cl_X5_takeValue_X7_fail _ _ _).trans ((gr_X7_fail _ _ _).trans (pbd fun _ => ?_)))
      refine x_goto.trans ?_
      exact (zrun_c rfl).trans (glr_X5_takeValue_132 _ _ _)
theorem s_X5_takeValue_19 {X : zX} (hX : zHX X)   : ∀ σ L st r, gl_X5_takeValue_19 j_X5_takeValue_19 σ L st = some r → zGW X 43 krV 19 σ L st r := by
  intro σ L st r h
  unfold gl_X5_takeValue_19 at h
  split at h
  · exact zin_ok (hy_X5_takeValue hX) bk_X5_takeValue (fun t f hf => by
    by_cases e47 : t = 47
    · rw [if_pos e47] at hf; subst e47; cases hf; exact (s_X5_takeValue_47 hX)
    rw [if_neg e47] at hf
    by_cases e132 : t = 132
    · rw [if_pos e132] at hf; subst e132; cases hf; exact (s_X5_takeValue_132 hX)
    rw [if_neg e132] at hf
    cases hf) ((e_X5_takeValue_19 _ _ _).symm.trans h)
  · cases h
noncomputable def d_X5_takeValue (σ : zH)  : Option zH :=
  if (σ.1 7 0 3) = (2 : Int32) then
    (d_X5_wordNumber σ).bind fun p1 =>
    j_X5_takeValue_19 p1.1 p1.2
  else
    j_X5_takeValue_19 σ (-1 : Int32)
theorem e_X5_takeValue (σ : zH)  : d_X5_takeValue σ = zin cc_X5_takeValue (fun t => if t = 19 then some (gl_X5_takeValue_19 j_X5_takeValue_19) else none) 9 krV b_X5_takeValue 0 σ [vR 5 0, vU] [] := by
  unfold d_X5_takeValue
  refine Eq.symm ((zin_b (es := q_X5_takeValue_0) rfl).trans ?_)
  refine (t_X5_takeValue_0 _ _ _ _).trans ?_
  refine x_icmp.trans (pif_ne ?_ ?_)
  · refine (zrun_b (es := q_X5_takeValue_18) rfl rfl).trans ?_
    refine (t_X5_takeValue_18 _ _ _ _).trans ?_
    refine x_cut.trans ?_
    exact (zrun_c rfl).trans (glr_X5_takeValue_19 _ _ _ _)
  · refine (t_X5_takeValue_11 _ _ _).trans ?_
    refine (x_callV rfl rfl rfl rfl).trans ((cl_X5_takeValue_X5_wordNumber _ _ _).trans ((gr_X5_wordNumber _ _).trans (pbd fun _ => ?_)))
    refine x_goto.trans ?_
    exact (zrun_c rfl).trans (glr_X5_takeValue_19 _ _ _ _)
noncomputable def g_X5_takeValue {ρ : Type} (σ : zH) (av : List zAV) (q : zH → zAV → Option ρ) : Option ρ := match av with
  | [.inr (.inr (.inl (5, 0)))] => (d_X5_takeValue σ).bind fun σ => q σ vU
  | _ => none
theorem gr_X5_takeValue {ρ : Type} (σ : zH)  (q : zH → zAV → Option ρ) : g_X5_takeValue σ [vR 5 0] q = (d_X5_takeValue σ).bind fun σ => q σ vU := rfl
theorem c_X5_takeValue {ρ : Type} {X : zX} (hX : zHX X) {σ : zH} {av : List zAV} {q : zH → zAV → Option ρ} {r : ρ} (h : g_X5_takeValue σ av q = some r) (hv : ∀ a ∈ av, zval X a) : zcon X 43 σ av q r := by
  unfold g_X5_takeValue at h
  split at h
  · exact zcon_V (n := 43) (ml := 2) (rc := 9) (st := 0) (kd := 5) (np := 0) (by decide +kernel) rfl ⟨_, _, rfl, rfl⟩ (Nat.le_of_ble_eq_true rfl) hv h (fun y h1 => (zin_ok (hy_X5_takeValue hX) bk_X5_takeValue (fun t f hf => by
      by_cases e19 : t = 19
      · rw [if_pos e19] at hf; subst e19; cases hf; exact (s_X5_takeValue_19 hX)
      rw [if_neg e19] at hf
      cases hf) ((e_X5_takeValue _).symm.trans h1)))
  · cases h
/-! SleepWaves$LawReader.hold(I)V -/
def q_X5_hold_30 : List zEnt := zE 30 .return_ 1 :: []
def q_X5_hold_27 : List zEnt := zEf 27 (.putfield 37) 3 5 6 27 (0, 0, 0) :: q_X5_hold_30
def q_X5_hold_20 : List zEnt := zE 20 (.aload_n 0) 1 :: zE 21 .dup 1 :: zEf 22 (.getfield 37) 3 5 6 27 (0, 0, 0) :: zEk 25 (.iconst 1) 1 1 :: zE 26 .iadd 1 :: q_X5_hold_27
def q_X5_hold_19 : List zEnt := zE 19 .iastore 1 :: q_X5_hold_20
def q_X5_hold_10 : List zEnt := zE 10 (.aload_n 0) 1 :: zEf 11 (.getfield 11) 3 5 5 26 (2, 29, 0) :: zE 14 (.aload_n 0) 1 :: zEf 15 (.getfield 37) 3 5 6 27 (0, 0, 0) :: zE 18 (.iload_n 1) 1 :: q_X5_hold_19
def q_X5_hold_7 : List zEnt := zEa 7 (.if_icmp .ge 23) 3 30 :: q_X5_hold_10
def q_X5_hold_0 : List zEnt := zE 0 (.aload_n 0) 1 :: zEf 1 (.getfield 37) 3 5 6 27 (0, 0, 0) :: zEk 4 (.sipush 400) 3 400 :: q_X5_hold_7
def b_X5_hold : List (Nat × List zEnt) := [(0, q_X5_hold_0), (30, q_X5_hold_30)]
theorem bk_X5_hold : zchB 47 b_X5_hold = true := by decide +kernel
theorem hy_X5_hold {ρ : Type} {X : zX} (hX : zHX X) : zHY X 47 (zc0 (ρ := ρ)) := zHX.hY hX (zc0_ok X) (zmok_all 47 (by decide))
theorem t_X5_hold_0 {G : Nat → zH → List zAV → List zAV → Option zH} (es : List zEnt) (σ : zH) (x1 : Int32)  (w4 : Int32) : zev zc0 G 9 krV (zE 0 (.aload_n 0) 1 :: zEf 1 (.getfield 37) 3 5 6 27 (0, 0, 0) :: zEk 4 (.sipush 400) 3 w4 :: es) σ [vR 5 0, vI x1] [] = zev zc0 G 9 krV es σ [vR 5 0, vI x1] [vI w4, vI (σ.1 5 0 6)] := rfl
theorem t_X5_hold_10 {G : Nat → zH → List zAV → List zAV → Option zH} (es : List zEnt) (σ : zH) (x1 : Int32)   : zev zc0 G 9 krV (zE 10 (.aload_n 0) 1 :: zEf 11 (.getfield 11) 3 5 5 26 (2, 29, 0) :: zE 14 (.aload_n 0) 1 :: zEf 15 (.getfield 37) 3 5 6 27 (0, 0, 0) :: zE 18 (.iload_n 1) 1 :: es) σ [vR 5 0, vI x1] [] = zev zc0 G 9 krV es σ [vR 5 0, vI x1] [vI x1, vI (σ.1 5 0 6), vR 29 0] := rfl
theorem t_X5_hold_20 {G : Nat → zH → List zAV → List zAV → Option zH} (es : List zEnt) (σ : zH)  (y1 : zAV) (w25 : Int32) : zev zc0 G 9 krV (zE 20 (.aload_n 0) 1 :: zE 21 .dup 1 :: zEf 22 (.getfield 37) 3 5 6 27 (0, 0, 0) :: zEk 25 (.iconst 1) 1 w25 :: zE 26 .iadd 1 :: es) σ [vR 5 0, y1] [] = zev zc0 G 9 krV es σ [vR 5 0, y1] [vI ((σ.1 5 0 6) + w25), vR 5 0] := rfl
noncomputable def d_X5_hold (σ : zH) (xa1 : Int32) : Option zH :=
  if (σ.1 5 0 6) < (400 : Int32) then
    ix (σ.1 5 0 6) 400 fun j3 =>
    zlet (uI σ 29 0 j3 xa1) fun σ1 =>
    zlet (uI σ1 5 0 6 ((σ1.1 5 0 6) + (1 : Int32))) fun σ2 =>
    some σ2
  else
    some σ
theorem e_X5_hold (σ : zH) (xa1 : Int32) : d_X5_hold σ xa1 = zin zc0 (fun t => none) 9 krV b_X5_hold 0 σ [vR 5 0, vI xa1] [] := by
  unfold d_X5_hold
  refine Eq.symm ((zin_b (es := q_X5_hold_0) rfl).trans ?_)
  refine (t_X5_hold_0 _ _ _ _).trans ?_
  refine x_icmp.trans (pif_ge ?_ ?_)
  · refine (zrun_b (es := q_X5_hold_30) rfl rfl).trans ?_
    exact x_vret
  · refine (t_X5_hold_10 _ _ _).trans ?_
    refine (x_iast (N := 400) rfl rfl).trans (pix fun _ => plt fun _ => ?_)
    refine (t_X5_hold_20 _ _ _ _).trans ?_
    refine x_pf0.trans (plt fun _ => ?_)
    exact x_vret
noncomputable def g_X5_hold {ρ : Type} (σ : zH) (av : List zAV) (q : zH → zAV → Option ρ) : Option ρ := match av with
  | [.inr (.inr (.inl (5, 0))), .inl xa1] => (d_X5_hold σ xa1).bind fun σ => q σ vU
  | _ => none
theorem gr_X5_hold {ρ : Type} (σ : zH) (xa1 : Int32) (q : zH → zAV → Option ρ) : g_X5_hold σ [vR 5 0, vI xa1] q = (d_X5_hold σ xa1).bind fun σ => q σ vU := rfl
theorem c_X5_hold {ρ : Type} {X : zX} (hX : zHX X) {σ : zH} {av : List zAV} {q : zH → zAV → Option ρ} {r : ρ} (h : g_X5_hold σ av q = some r) (hv : ∀ a ∈ av, zval X a) : zcon X 47 σ av q r := by
  unfold g_X5_hold at h
  split at h
  · exact zcon_V (n := 47) (ml := 2) (rc := 9) (st := 0) (kd := 5) (np := 1) (by decide +kernel) rfl ⟨_, _, rfl, rfl⟩ (Nat.le_of_ble_eq_true rfl) hv h (fun y h1 => (zin_ok (hy_X5_hold hX) bk_X5_hold (fun t f hf => by
      cases hf) ((e_X5_hold _ _).symm.trans h1)))
  · cases h
/-! SleepWaves$LawReader.takeFact()V -/
def q_X5_takeFact_35 : List zEnt := zE 35 .return_ 1 :: []
def q_X5_takeFact_32 : List zEnt := zEc 32 (.invokevirtual 70) 3 43 1 39 1 :: q_X5_takeFact_35
def q_X5_takeFact_31 : List zEnt := zE 31 (.aload_n 0) 1 :: q_X5_takeFact_32
def q_X5_takeFact_28 : List zEnt := zEf 28 (.putfield 104) 3 5 3 24 (0, 1, 0) :: q_X5_takeFact_31
def q_X5_takeFact_26 : List zEnt := zE 26 (.aload_n 0) 1 :: zEk 27 (.iconst 0) 1 0 :: q_X5_takeFact_28
def q_X5_takeFact_23 : List zEnt := zEa 23 (.ifCond .ne 13) 3 36 :: q_X5_takeFact_26
def q_X5_takeFact_20 : List zEnt := zEc 20 (.invokevirtual 81) 3 69 2 33 0 :: q_X5_takeFact_23
def q_X5_takeFact_14 : List zEnt := zE 14 (.aload_n 0) 1 :: zEf 15 (.getfield 17) 3 5 0 21 (2, 7, 0) :: (18, (.ldc 102), 2, (1, 6, 0, 0), (0, 0, 0), 0, 0, []) :: q_X5_takeFact_20
def q_X5_takeFact_11 : List zEnt := zEa 11 (.ifCond .ne 25) 3 36 :: q_X5_takeFact_14
def q_X5_takeFact_9 : List zEnt := zE 9 (.istore_n 1) 1 :: zE 10 (.iload_n 1) 1 :: q_X5_takeFact_11
def q_X5_takeFact_6 : List zEnt := zEc 6 (.invokevirtual 98) 3 68 2 38 0 :: q_X5_takeFact_9
def q_X5_takeFact_0 : List zEnt := zE 0 (.aload_n 0) 1 :: zEf 1 (.getfield 17) 3 5 0 21 (2, 7, 0) :: zEk 4 (.bipush 91) 2 91 :: q_X5_takeFact_6
def q_X5_takeFact_58 : List zEnt := zEa 58 (.goto 41) 3 99 :: []
def q_X5_takeFact_55 : List zEnt := zEc 55 (.invokevirtual 87) 3 61 2 34 1 :: q_X5_takeFact_58
def q_X5_takeFact_50 : List zEnt := zE 50 (.aload_n 0) 1 :: zEf 51 (.getfield 17) 3 5 0 21 (2, 7, 0) :: zEk 54 (.iconst 2) 1 2 :: q_X5_takeFact_55
def q_X5_takeFact_47 : List zEnt := zEa 47 (.if_icmp .lt 14) 3 61 :: q_X5_takeFact_50
def q_X5_takeFact_36 : List zEnt := zE 36 (.aload_n 0) 1 :: zEf 37 (.getfield 40) 3 5 7 28 (0, 0, 0) :: zE 40 (.aload_n 0) 1 :: zEf 41 (.getfield 43) 3 5 8 29 (0, 0, 0) :: zE 44 .iadd 1 :: zEk 45 (.bipush 10) 2 10 :: q_X5_takeFact_47
def q_X5_takeFact_80 : List zEnt := zEa 80 (.goto 19) 3 99 :: []
def q_X5_takeFact_77 : List zEnt := zEc 77 (.invokevirtual 108) 3 47 2 43 1 :: q_X5_takeFact_80
def q_X5_takeFact_75 : List zEnt := zE 75 (.aload_n 0) 1 :: zEk 76 (.iconst 0) 1 0 :: q_X5_takeFact_77
def q_X5_takeFact_72 : List zEnt := zEf 72 (.putfield 40) 3 5 7 28 (0, 0, 0) :: q_X5_takeFact_75
def q_X5_takeFact_65 : List zEnt := zE 65 (.aload_n 0) 1 :: zE 66 .dup 1 :: zEf 67 (.getfield 40) 3 5 7 28 (0, 0, 0) :: zEk 70 (.iconst 1) 1 1 :: zE 71 .iadd 1 :: q_X5_takeFact_72
def q_X5_takeFact_62 : List zEnt := zEa 62 (.ifCond .eq 21) 3 83 :: q_X5_takeFact_65
def q_X5_takeFact_61 : List zEnt := zE 61 (.iload_n 1) 1 :: q_X5_takeFact_62
def q_X5_takeFact_99 : List zEnt := zE 99 .return_ 1 :: []
def q_X5_takeFact_96 : List zEnt := zEc 96 (.invokevirtual 108) 3 47 2 43 1 :: q_X5_takeFact_99
def q_X5_takeFact_93 : List zEnt := zE 93 (.aload_n 0) 1 :: zEk 94 (.bipush 30) 2 30 :: q_X5_takeFact_96
def q_X5_takeFact_90 : List zEnt := zEf 90 (.putfield 43) 3 5 8 29 (0, 0, 0) :: q_X5_takeFact_93
def q_X5_takeFact_83 : List zEnt := zE 83 (.aload_n 0) 1 :: zE 84 .dup 1 :: zEf 85 (.getfield 43) 3 5 8 29 (0, 0, 0) :: zEk 88 (.iconst 1) 1 1 :: zE 89 .iadd 1 :: q_X5_takeFact_90
def b_X5_takeFact : List (Nat × List zEnt) := [(0, q_X5_takeFact_0), (36, q_X5_takeFact_36), (61, q_X5_takeFact_61), (83, q_X5_takeFact_83), (99, q_X5_takeFact_99)]
theorem bk_X5_takeFact : zchB 42 b_X5_takeFact = true := by decide +kernel
noncomputable def cc_X5_takeFact {ρ : Type} : Nat → zH → List zAV → (zH → zAV → Option ρ) → Option ρ := fun n σ av q => if n = 68 then g_X7_isSign σ av q else if n = 69 then g_X7_isWord σ av q else if n = 43 then g_X5_takeValue σ av q else if n = 61 then g_X7_fail σ av q else if n = 47 then g_X5_hold σ av q else none
theorem cs_X5_takeFact {ρ : Type} {X : zX} (hX : zHX X) : zCS X (cc_X5_takeFact (ρ := ρ)) := by
  intro n σ av q r h hv
  unfold cc_X5_takeFact at h
  by_cases e_X7_isSign : n = 68
  · rw [if_pos e_X7_isSign] at h
    subst e_X7_isSign
    exact c_X7_isSign hX h hv
  rw [if_neg e_X7_isSign] at h
  by_cases e_X7_isWord : n = 69
  · rw [if_pos e_X7_isWord] at h
    subst e_X7_isWord
    exact c_X7_isWord hX h hv
  rw [if_neg e_X7_isWord] at h
  by_cases e_X5_takeValue : n = 43
  · rw [if_pos e_X5_takeValue] at h
    subst e_X5_takeValue
    exact c_X5_takeValue hX h hv
  rw [if_neg e_X5_takeValue] at h
  by_cases e_X7_fail : n = 61
  · rw [if_pos e_X7_fail] at h
    subst e_X7_fail
    exact c_X7_fail hX h hv
  rw [if_neg e_X7_fail] at h
  by_cases e_X5_hold : n = 47
  · rw [if_pos e_X5_hold] at h
    subst e_X5_hold
    exact c_X5_hold hX h hv
  rw [if_neg e_X5_hold] at h
  cases h
theorem cl_X5_takeFact_X7_isSign {ρ : Type} (σ : zH) (av : List zAV) (q : zH → zAV → Option ρ) : cc_X5_takeFact 68 σ av q = g_X7_isSign σ av q := rfl
theorem cl_X5_takeFact_X7_isWord {ρ : Type} (σ : zH) (av : List zAV) (q : zH → zAV → Option ρ) : cc_X5_takeFact 69 σ av q = g_X7_isWord σ av q := rfl
theorem cl_X5_takeFact_X5_takeValue {ρ : Type} (σ : zH) (av : List zAV) (q : zH → zAV → Option ρ) : cc_X5_takeFact 43 σ av q = g_X5_takeValue σ av q := rfl
theorem cl_X5_takeFact_X7_fail {ρ : Type} (σ : zH) (av : List zAV) (q : zH → zAV → Option ρ) : cc_X5_takeFact 61 σ av q = g_X7_fail σ av q := rfl
theorem cl_X5_takeFact_X5_hold {ρ : Type} (σ : zH) (av : List zAV) (q : zH → zAV → Option ρ) : cc_X5_takeFact 47 σ av q = g_X5_hold σ av q := rfl
theorem hy_X5_takeFact {ρ : Type} {X : zX} (hX : zHX X) : zHY X 42 (cc_X5_takeFact (ρ := ρ)) := zHX.hY hX (cs_X5_takeFact hX) (zmok_all 42 (by decide))
def gl_X5_takeFact_36 {ρ : Type} (f : zH → Int32 → Option ρ) (σ : zH) (L st : List zAV) : Option ρ := match L, st with
  | [.inr (.inr (.inl (5, 0))), .inl x1], [] => f σ x1
  | _, _ => none
theorem glr_X5_takeFact_36 {ρ : Type} (f : zH → Int32 → Option ρ) (σ : zH) (x1 : Int32)  : gl_X5_takeFact_36 f σ [vR 5 0, vI x1] [] = f σ x1 := rfl
theorem t_X5_takeFact_0 {G : Nat → zH → List zAV → List zAV → Option zH} (es : List zEnt) (σ : zH)  (y1 : zAV) (w4 : Int32) : zev cc_X5_takeFact G 9 krV (zE 0 (.aload_n 0) 1 :: zEf 1 (.getfield 17) 3 5 0 21 (2, 7, 0) :: zEk 4 (.bipush 91) 2 w4 :: es) σ [vR 5 0, y1] [] = zev cc_X5_takeFact G 9 krV es σ [vR 5 0, y1] [vI w4, vR 7 0] := rfl
theorem t_X5_takeFact_9 {G : Nat → zH → List zAV → List zAV → Option zH} (es : List zEnt) (σ : zH) (xs0 : Int32) (y1 : zAV)  : zev cc_X5_takeFact G 9 krV (zE 9 (.istore_n 1) 1 :: zE 10 (.iload_n 1) 1 :: es) σ [vR 5 0, y1] [vI xs0] = zev cc_X5_takeFact G 9 krV es σ [vR 5 0, vI xs0] [vI xs0] := rfl
theorem t_X5_takeFact_14 {G : Nat → zH → List zAV → List zAV → Option zH} (es : List zEnt) (σ : zH) (x1 : Int32)   : zev cc_X5_takeFact G 9 krV (zE 14 (.aload_n 0) 1 :: zEf 15 (.getfield 17) 3 5 0 21 (2, 7, 0) :: (18, (.ldc 102), 2, (1, 6, 0, 0), (0, 0, 0), 0, 0, []) :: es) σ [vR 5 0, vI x1] [] = zev cc_X5_takeFact G 9 krV es σ [vR 5 0, vI x1] [vR 200 6, vR 7 0] := rfl
theorem t_X5_takeFact_26 {G : Nat → zH → List zAV → List zAV → Option zH} (es : List zEnt) (σ : zH)  (y1 : zAV) (w27 : Int32) : zev cc_X5_takeFact G 9 krV (zE 26 (.aload_n 0) 1 :: zEk 27 (.iconst 0) 1 w27 :: es) σ [vR 5 0, y1] [] = zev cc_X5_takeFact G 9 krV es σ [vR 5 0, y1] [vI w27, vR 5 0] := rfl
theorem t_X5_takeFact_31 {G : Nat → zH → List zAV → List zAV → Option zH} (es : List zEnt) (σ : zH)  (y1 : zAV)  : zev cc_X5_takeFact G 9 krV (zE 31 (.aload_n 0) 1 :: es) σ [vR 5 0, y1] [] = zev cc_X5_takeFact G 9 krV es σ [vR 5 0, y1] [vR 5 0] := rfl
theorem t_X5_takeFact_36 {G : Nat → zH → List zAV → List zAV → Option zH} (es : List zEnt) (σ : zH) (x1 : Int32)  (w45 : Int32) : zev cc_X5_takeFact G 9 krV (zE 36 (.aload_n 0) 1 :: zEf 37 (.getfield 40) 3 5 7 28 (0, 0, 0) :: zE 40 (.aload_n 0) 1 :: zEf 41 (.getfield 43) 3 5 8 29 (0, 0, 0) :: zE 44 .iadd 1 :: zEk 45 (.bipush 10) 2 w45 :: es) σ [vR 5 0, vI x1] [] = zev cc_X5_takeFact G 9 krV es σ [vR 5 0, vI x1] [vI w45, vI ((σ.1 5 0 7) + (σ.1 5 0 8))] := rfl
theorem t_X5_takeFact_50 {G : Nat → zH → List zAV → List zAV → Option zH} (es : List zEnt) (σ : zH)  (y1 : zAV) (w54 : Int32) : zev cc_X5_takeFact G 9 krV (zE 50 (.aload_n 0) 1 :: zEf 51 (.getfield 17) 3 5 0 21 (2, 7, 0) :: zEk 54 (.iconst 2) 1 w54 :: es) σ [vR 5 0, y1] [] = zev cc_X5_takeFact G 9 krV es σ [vR 5 0, y1] [vI w54, vR 7 0] := rfl
theorem t_X5_takeFact_61 {G : Nat → zH → List zAV → List zAV → Option zH} (es : List zEnt) (σ : zH) (x1 : Int32)   : zev cc_X5_takeFact G 9 krV (zE 61 (.iload_n 1) 1 :: es) σ [vR 5 0, vI x1] [] = zev cc_X5_takeFact G 9 krV es σ [vR 5 0, vI x1] [vI x1] := rfl
theorem t_X5_takeFact_65 {G : Nat → zH → List zAV → List zAV → Option zH} (es : List zEnt) (σ : zH)  (y1 : zAV) (w70 : Int32) : zev cc_X5_takeFact G 9 krV (zE 65 (.aload_n 0) 1 :: zE 66 .dup 1 :: zEf 67 (.getfield 40) 3 5 7 28 (0, 0, 0) :: zEk 70 (.iconst 1) 1 w70 :: zE 71 .iadd 1 :: es) σ [vR 5 0, y1] [] = zev cc_X5_takeFact G 9 krV es σ [vR 5 0, y1] [vI ((σ.1 5 0 7) + w70), vR 5 0] := rfl
theorem t_X5_takeFact_75 {G : Nat → zH → List zAV → List zAV → Option zH} (es : List zEnt) (σ : zH)  (y1 : zAV) (w76 : Int32) : zev cc_X5_takeFact G 9 krV (zE 75 (.aload_n 0) 1 :: zEk 76 (.iconst 0) 1 w76 :: es) σ [vR 5 0, y1] [] = zev cc_X5_takeFact G 9 krV es σ [vR 5 0, y1] [vI w76, vR 5 0] := rfl
theorem t_X5_takeFact_83 {G : Nat → zH → List zAV → List zAV → Option zH} (es : List zEnt) (σ : zH)  (y1 : zAV) (w88 : Int32) : zev cc_X5_takeFact G 9 krV (zE 83 (.aload_n 0) 1 :: zE 84 .dup 1 :: zEf 85 (.getfield 43) 3 5 8 29 (0, 0, 0) :: zEk 88 (.iconst 1) 1 w88 :: zE 89 .iadd 1 :: es) σ [vR 5 0, y1] [] = zev cc_X5_takeFact G 9 krV es σ [vR 5 0, y1] [vI ((σ.1 5 0 8) + w88), vR 5 0] := rfl
theorem t_X5_takeFact_93 {G : Nat → zH → List zAV → List zAV → Option zH} (es : List zEnt) (σ : zH)  (y1 : zAV) (w94 : Int32) : zev cc_X5_takeFact G 9 krV (zE 93 (.aload_n 0) 1 :: zEk 94 (.bipush 30) 2 w94 :: es) σ [vR 5 0, y1] [] = zev cc_X5_takeFact G 9 krV es σ [vR 5 0, y1] [vI w94, vR 5 0] := rfl
noncomputable def j_X5_takeFact_36  (σ : zH) (x1 : Int32) : Option zH :=
  if ((σ.1 5 0 7) + (σ.1 5 0 8)) < (10 : Int32) then
    if x1 = 0 then
      zlet (uI σ 5 0 8 ((σ.1 5 0 8) + (1 : Int32))) fun σ1 =>
      (d_X5_hold σ1 (30 : Int32)).bind fun σ2 =>
      some σ2
    else
      zlet (uI σ 5 0 7 ((σ.1 5 0 7) + (1 : Int32))) fun σ3 =>
      (d_X5_hold σ3 (0 : Int32)).bind fun σ4 =>
      some σ4
  else
    (d_X7_fail σ (2 : Int32)).bind fun σ5 =>
    some σ5
theorem e_X5_takeFact_36  (σ : zH) (x1 : Int32)  : j_X5_takeFact_36 σ x1 = zin cc_X5_takeFact (fun t => none) 9 krV b_X5_takeFact 36 σ [vR 5 0, vI x1] [] := by
  unfold j_X5_takeFact_36
  refine Eq.symm ((zin_b (es := q_X5_takeFact_36) rfl).trans ?_)
  refine (t_X5_takeFact_36 _ _ _ _).trans ?_
  refine x_icmp.trans (pif_lt ?_ ?_)
  · refine (zrun_b (es := q_X5_takeFact_61) rfl rfl).trans ?_
    refine (t_X5_takeFact_61 _ _ _).trans ?_
    refine x_if.trans (pif_eq ?_ ?_)
    · refine (zrun_b (es := q_X5_takeFact_83) rfl rfl).trans ?_
      refine (t_X5_takeFact_83 _ _ _ _).trans ?_
      refine x_pf0.trans (plt fun _ => ?_)
      refine (t_X5_takeFact_93 _ _ _ _).trans ?_
      refine (x_callV rfl rfl rfl rfl).trans ((cl_X5_takeFact_X5_hold _ _ _).trans ((gr_X5_hold _ _ _).trans (pbd fun _ => ?_)))
      exact x_vret
    · refine (t_X5_takeFact_65 _ _ _ _).trans ?_
      refine x_pf0.trans (plt fun _ => ?_)
      refine (t_X5_takeFact_75 _ _ _ _).trans ?_
      refine (x_callV rfl rfl rfl rfl).trans ((cl_X5_takeFact_X5_hold _ _ _).trans ((gr_X5_hold _ _ _).trans (pbd fun _ => ?_)))
      refine x_goto.trans ?_
      refine (zrun_b (es := q_X5_takeFact_99) rfl rfl).trans ?_
      exact x_vret
  · refine (t_X5_takeFact_50 _ _ _ _).trans ?_
    refine (x_callV rfl rfl rfl rfl).trans ((cl_X5_takeFact_X7_fail _ _ _).trans ((gr_X7_fail _ _ _).trans (pbd fun _ => ?_)))
    refine x_goto.trans ?_
    refine (zrun_b (es := q_X5_takeFact_99) rfl rfl).trans ?_
    exact x_vret
theorem s_X5_takeFact_36 {X : zX} (hX : zHX X)   : ∀ σ L st r, gl_X5_takeFact_36 j_X5_takeFact_36 σ L st = some r → zGW X 42 krV 36 σ L st r := by
  intro σ L st r h
  unfold gl_X5_takeFact_36 at h
  split at h
  · exact zin_ok (hy_X5_takeFact hX) bk_X5_takeFact (fun t f hf => by
    cases hf) ((e_X5_takeFact_36 _ _).symm.trans h)
  · cases h
noncomputable def d_X5_takeFact (σ : zH)  : Option zH :=
  (d_X7_isSign σ (91 : Int32)).bind fun p1 =>
  if p1.2 = 0 then
    (d_X7_isWord p1.1 6).bind fun p2 =>
    if p2.2 = 0 then
      zlet (uI p2.1 5 0 3 (0 : Int32)) fun σ3 =>
      (d_X5_takeValue σ3).bind fun σ4 =>
      some σ4
    else
      j_X5_takeFact_36 p2.1 p1.2
  else
    j_X5_takeFact_36 p1.1 p1.2
theorem e_X5_takeFact (σ : zH)  : d_X5_takeFact σ = zin cc_X5_takeFact (fun t => if t = 36 then some (gl_X5_takeFact_36 j_X5_takeFact_36) else none) 9 krV b_X5_takeFact 0 σ [vR 5 0, vU] [] := by
  unfold d_X5_takeFact
  refine Eq.symm ((zin_b (es := q_X5_takeFact_0) rfl).trans ?_)
  refine (t_X5_takeFact_0 _ _ _ _).trans ?_
  refine (x_callV rfl rfl rfl rfl).trans ((cl_X5_takeFact_X7_isSign _ _ _).trans ((gr_X7_isSign _ _ _).trans (pbd fun _ => ?_)))
  refine (t_X5_takeFact_9 _ _ _ _).trans ?_
  refine x_if.trans (pif_ne ?_ ?_)
  · exact (zrun_c rfl).trans (glr_X5_takeFact_36 _ _ _)
  · refine (t_X5_takeFact_14 _ _ _).trans ?_
    refine (x_callV rfl rfl rfl rfl).trans ((cl_X5_takeFact_X7_isWord _ _ _).trans ((gr_X7_isWord _ _ _).trans (pbd fun _ => ?_)))
    refine x_if.trans (pif_ne ?_ ?_)
    · exact (zrun_c rfl).trans (glr_X5_takeFact_36 _ _ _)
    · refine (t_X5_takeFact_26 _ _ _ _).trans ?_
      refine (x_pf1.trans (tv_l (by decide +kernel))).trans (plt fun _ => ?_)
      refine (t_X5_takeFact_31 _ _ _).trans ?_
      refine (x_callV rfl rfl rfl rfl).trans ((cl_X5_takeFact_X5_takeValue _ _ _).trans ((gr_X5_takeValue _ _).trans (pbd fun _ => ?_)))
      exact x_vret
noncomputable def g_X5_takeFact {ρ : Type} (σ : zH) (av : List zAV) (q : zH → zAV → Option ρ) : Option ρ := match av with
  | [.inr (.inr (.inl (5, 0)))] => (d_X5_takeFact σ).bind fun σ => q σ vU
  | _ => none
theorem gr_X5_takeFact {ρ : Type} (σ : zH)  (q : zH → zAV → Option ρ) : g_X5_takeFact σ [vR 5 0] q = (d_X5_takeFact σ).bind fun σ => q σ vU := rfl
theorem c_X5_takeFact {ρ : Type} {X : zX} (hX : zHX X) {σ : zH} {av : List zAV} {q : zH → zAV → Option ρ} {r : ρ} (h : g_X5_takeFact σ av q = some r) (hv : ∀ a ∈ av, zval X a) : zcon X 42 σ av q r := by
  unfold g_X5_takeFact at h
  split at h
  · exact zcon_V (n := 42) (ml := 2) (rc := 9) (st := 0) (kd := 5) (np := 0) (by decide +kernel) rfl ⟨_, _, rfl, rfl⟩ (Nat.le_of_ble_eq_true rfl) hv h (fun y h1 => (zin_ok (hy_X5_takeFact hX) bk_X5_takeFact (fun t f hf => by
      by_cases e36 : t = 36
      · rw [if_pos e36] at hf; subst e36; cases hf; exact (s_X5_takeFact_36 hX)
      rw [if_neg e36] at hf
      cases hf) ((e_X5_takeFact _).symm.trans h1)))
  · cases h
/-! SleepWaves$LawReader.operatorOf(I)I -/
def q_X5_operatorOf_1 : List zEnt := (1, (.lookupswitch 121 #[(37, 103), (42, 97), (43, 91), (45, 94), (47, 100), (60, 106), (61, 109), (62, 112), (256, 115), (257, 118)]), 91, (122, 0, 0, 0), (0, 0, 0), 0, 0, [(37, 104), (42, 98), (43, 92), (45, 95), (47, 101), (60, 107), (61, 110), (62, 113), (256, 116), (257, 119)]) :: []
def q_X5_operatorOf_0 : List zEnt := zE 0 (.iload_n 0) 1 :: q_X5_operatorOf_1
def q_X5_operatorOf_94 : List zEnt := zE 94 .ireturn 1 :: []
def q_X5_operatorOf_92 : List zEnt := zEk 92 (.bipush 50) 2 50 :: q_X5_operatorOf_94
def q_X5_operatorOf_97 : List zEnt := zE 97 .ireturn 1 :: []
def q_X5_operatorOf_95 : List zEnt := zEk 95 (.bipush 51) 2 51 :: q_X5_operatorOf_97
def q_X5_operatorOf_100 : List zEnt := zE 100 .ireturn 1 :: []
def q_X5_operatorOf_98 : List zEnt := zEk 98 (.bipush 60) 2 60 :: q_X5_operatorOf_100
def q_X5_operatorOf_103 : List zEnt := zE 103 .ireturn 1 :: []
def q_X5_operatorOf_101 : List zEnt := zEk 101 (.bipush 61) 2 61 :: q_X5_operatorOf_103
def q_X5_operatorOf_106 : List zEnt := zE 106 .ireturn 1 :: []
def q_X5_operatorOf_104 : List zEnt := zEk 104 (.bipush 62) 2 62 :: q_X5_operatorOf_106
def q_X5_operatorOf_109 : List zEnt := zE 109 .ireturn 1 :: []
def q_X5_operatorOf_107 : List zEnt := zEk 107 (.bipush 40) 2 40 :: q_X5_operatorOf_109
def q_X5_operatorOf_112 : List zEnt := zE 112 .ireturn 1 :: []
def q_X5_operatorOf_110 : List zEnt := zEk 110 (.bipush 42) 2 42 :: q_X5_operatorOf_112
def q_X5_operatorOf_115 : List zEnt := zE 115 .ireturn 1 :: []
def q_X5_operatorOf_113 : List zEnt := zEk 113 (.bipush 44) 2 44 :: q_X5_operatorOf_115
def q_X5_operatorOf_118 : List zEnt := zE 118 .ireturn 1 :: []
def q_X5_operatorOf_116 : List zEnt := zEk 116 (.bipush 41) 2 41 :: q_X5_operatorOf_118
def q_X5_operatorOf_121 : List zEnt := zE 121 .ireturn 1 :: []
def q_X5_operatorOf_119 : List zEnt := zEk 119 (.bipush 43) 2 43 :: q_X5_operatorOf_121
def q_X5_operatorOf_123 : List zEnt := zE 123 .ireturn 1 :: []
def q_X5_operatorOf_122 : List zEnt := zEk 122 (.iconst (-1)) 1 (-1) :: q_X5_operatorOf_123
def b_X5_operatorOf : List (Nat × List zEnt) := [(0, q_X5_operatorOf_0), (92, q_X5_operatorOf_92), (95, q_X5_operatorOf_95), (98, q_X5_operatorOf_98), (101, q_X5_operatorOf_101), (104, q_X5_operatorOf_104), (107, q_X5_operatorOf_107), (110, q_X5_operatorOf_110), (113, q_X5_operatorOf_113), (116, q_X5_operatorOf_116), (119, q_X5_operatorOf_119), (122, q_X5_operatorOf_122)]
theorem bk_X5_operatorOf : zchB 51 b_X5_operatorOf = true := by decide +kernel
theorem hy_X5_operatorOf {ρ : Type} {X : zX} (hX : zHX X) : zHY X 51 (zc0 (ρ := ρ)) := zHX.hY hX (zc0_ok X) (zmok_all 51 (by decide))
theorem t_X5_operatorOf_0 {G : Nat → zH → List zAV → List zAV → Option (zH × Int32)} (es : List zEnt) (σ : zH) (x0 : Int32)   : zev zc0 G 0 krI (zE 0 (.iload_n 0) 1 :: es) σ [vI x0] [] = zev zc0 G 0 krI es σ [vI x0] [vI x0] := rfl
theorem t_X5_operatorOf_92 {G : Nat → zH → List zAV → List zAV → Option (zH × Int32)} (es : List zEnt) (σ : zH)  (y0 : zAV) (w92 : Int32) : zev zc0 G 0 krI (zEk 92 (.bipush 50) 2 w92 :: es) σ [y0] [] = zev zc0 G 0 krI es σ [y0] [vI w92] := rfl
theorem t_X5_operatorOf_95 {G : Nat → zH → List zAV → List zAV → Option (zH × Int32)} (es : List zEnt) (σ : zH)  (y0 : zAV) (w95 : Int32) : zev zc0 G 0 krI (zEk 95 (.bipush 51) 2 w95 :: es) σ [y0] [] = zev zc0 G 0 krI es σ [y0] [vI w95] := rfl
theorem t_X5_operatorOf_98 {G : Nat → zH → List zAV → List zAV → Option (zH × Int32)} (es : List zEnt) (σ : zH)  (y0 : zAV) (w98 : Int32) : zev zc0 G 0 krI (zEk 98 (.bipush 60) 2 w98 :: es) σ [y0] [] = zev zc0 G 0 krI es σ [y0] [vI w98] := rfl
theorem t_X5_operatorOf_101 {G : Nat → zH → List zAV → List zAV → Option (zH × Int32)} (es : List zEnt) (σ : zH)  (y0 : zAV) (w101 : Int32) : zev zc0 G 0 krI (zEk 101 (.bipush 61) 2 w101 :: es) σ [y0] [] = zev zc0 G 0 krI es σ [y0] [vI w101] := rfl
theorem t_X5_operatorOf_104 {G : Nat → zH → List zAV → List zAV → Option (zH × Int32)} (es : List zEnt) (σ : zH)  (y0 : zAV) (w104 : Int32) : zev zc0 G 0 krI (zEk 104 (.bipush 62) 2 w104 :: es) σ [y0] [] = zev zc0 G 0 krI es σ [y0] [vI w104] := rfl
theorem t_X5_operatorOf_107 {G : Nat → zH → List zAV → List zAV → Option (zH × Int32)} (es : List zEnt) (σ : zH)  (y0 : zAV) (w107 : Int32) : zev zc0 G 0 krI (zEk 107 (.bipush 40) 2 w107 :: es) σ [y0] [] = zev zc0 G 0 krI es σ [y0] [vI w107] := rfl
theorem t_X5_operatorOf_110 {G : Nat → zH → List zAV → List zAV → Option (zH × Int32)} (es : List zEnt) (σ : zH)  (y0 : zAV) (w110 : Int32) : zev zc0 G 0 krI (zEk 110 (.bipush 42) 2 w110 :: es) σ [y0] [] = zev zc0 G 0 krI es σ [y0] [vI w110] := rfl
theorem t_X5_operatorOf_113 {G : Nat → zH → List zAV → List zAV → Option (zH × Int32)} (es : List zEnt) (σ : zH)  (y0 : zAV) (w113 : Int32) : zev zc0 G 0 krI (zEk 113 (.bipush 44) 2 w113 :: es) σ [y0] [] = zev zc0 G 0 krI es σ [y0] [vI w113] := rfl
theorem t_X5_operatorOf_116 {G : Nat → zH → List zAV → List zAV → Option (zH × Int32)} (es : List zEnt) (σ : zH)  (y0 : zAV) (w116 : Int32) : zev zc0 G 0 krI (zEk 116 (.bipush 41) 2 w116 :: es) σ [y0] [] = zev zc0 G 0 krI es σ [y0] [vI w116] := rfl
theorem t_X5_operatorOf_119 {G : Nat → zH → List zAV → List zAV → Option (zH × Int32)} (es : List zEnt) (σ : zH)  (y0 : zAV) (w119 : Int32) : zev zc0 G 0 krI (zEk 119 (.bipush 43) 2 w119 :: es) σ [y0] [] = zev zc0 G 0 krI es σ [y0] [vI w119] := rfl
theorem t_X5_operatorOf_122 {G : Nat → zH → List zAV → List zAV → Option (zH × Int32)} (es : List zEnt) (σ : zH)  (y0 : zAV) (w122 : Int32) : zev zc0 G 0 krI (zEk 122 (.iconst (-1)) 1 w122 :: es) σ [y0] [] = zev zc0 G 0 krI es σ [y0] [vI w122] := rfl
noncomputable def d_X5_operatorOf (σ : zH) (xa0 : Int32) : Option (zH × Int32) :=
  if xa0 = (37 : Int32) then
    some (σ, (62 : Int32))
  else if xa0 = (42 : Int32) then
    some (σ, (60 : Int32))
  else if xa0 = (43 : Int32) then
    some (σ, (50 : Int32))
  else if xa0 = (45 : Int32) then
    some (σ, (51 : Int32))
  else if xa0 = (47 : Int32) then
    some (σ, (61 : Int32))
  else if xa0 = (60 : Int32) then
    some (σ, (40 : Int32))
  else if xa0 = (61 : Int32) then
    some (σ, (42 : Int32))
  else if xa0 = (62 : Int32) then
    some (σ, (44 : Int32))
  else if xa0 = (256 : Int32) then
    some (σ, (41 : Int32))
  else if xa0 = (257 : Int32) then
    some (σ, (43 : Int32))
  else 
    some (σ, (-1 : Int32))
theorem e_X5_operatorOf (σ : zH) (xa0 : Int32) : d_X5_operatorOf σ xa0 = zin zc0 (fun t => none) 0 krI b_X5_operatorOf 0 σ [vI xa0] [] := by
  unfold d_X5_operatorOf
  refine Eq.symm ((zin_b (es := q_X5_operatorOf_0) rfl).trans ?_)
  refine (t_X5_operatorOf_0 _ _ _).trans ?_
  refine x_lsw.trans ?_
  refine zsw_c ?_ ?_
  · refine (zrun_b (es := q_X5_operatorOf_104) rfl rfl).trans ?_
    refine (t_X5_operatorOf_104 _ _ _ _).trans ?_
    exact x_iret
  refine zsw_c ?_ ?_
  · refine (zrun_b (es := q_X5_operatorOf_98) rfl rfl).trans ?_
    refine (t_X5_operatorOf_98 _ _ _ _).trans ?_
    exact x_iret
  refine zsw_c ?_ ?_
  · refine (zrun_b (es := q_X5_operatorOf_92) rfl rfl).trans ?_
    refine (t_X5_operatorOf_92 _ _ _ _).trans ?_
    exact x_iret
  refine zsw_c ?_ ?_
  · refine (zrun_b (es := q_X5_operatorOf_95) rfl rfl).trans ?_
    refine (t_X5_operatorOf_95 _ _ _ _).trans ?_
    exact x_iret
  refine zsw_c ?_ ?_
  · refine (zrun_b (es := q_X5_operatorOf_101) rfl rfl).trans ?_
    refine (t_X5_operatorOf_101 _ _ _ _).trans ?_
    exact x_iret
  refine zsw_c ?_ ?_
  · refine (zrun_b (es := q_X5_operatorOf_107) rfl rfl).trans ?_
    refine (t_X5_operatorOf_107 _ _ _ _).trans ?_
    exact x_iret
  refine zsw_c ?_ ?_
  · refine (zrun_b (es := q_X5_operatorOf_110) rfl rfl).trans ?_
    refine (t_X5_operatorOf_110 _ _ _ _).trans ?_
    exact x_iret
  refine zsw_c ?_ ?_
  · refine (zrun_b (es := q_X5_operatorOf_113) rfl rfl).trans ?_
    refine (t_X5_operatorOf_113 _ _ _ _).trans ?_
    exact x_iret
  refine zsw_c ?_ ?_
  · refine (zrun_b (es := q_X5_operatorOf_116) rfl rfl).trans ?_
    refine (t_X5_operatorOf_116 _ _ _ _).trans ?_
    exact x_iret
  refine zsw_c ?_ ?_
  · refine (zrun_b (es := q_X5_operatorOf_119) rfl rfl).trans ?_
    refine (t_X5_operatorOf_119 _ _ _ _).trans ?_
    exact x_iret
  refine zsw_n ?_
  refine (zrun_b (es := q_X5_operatorOf_122) rfl rfl).trans ?_
  refine (t_X5_operatorOf_122 _ _ _ _).trans ?_
  exact x_iret
noncomputable def g_X5_operatorOf {ρ : Type} (σ : zH) (av : List zAV) (q : zH → zAV → Option ρ) : Option ρ := match av with
  | [.inl xa0] => (d_X5_operatorOf σ xa0).bind fun p => q p.1 (vI p.2)
  | _ => none
theorem gr_X5_operatorOf {ρ : Type} (σ : zH) (xa0 : Int32) (q : zH → zAV → Option ρ) : g_X5_operatorOf σ [vI xa0] q = (d_X5_operatorOf σ xa0).bind fun p => q p.1 (vI p.2) := rfl
theorem c_X5_operatorOf {ρ : Type} {X : zX} (hX : zHX X) {σ : zH} {av : List zAV} {q : zH → zAV → Option ρ} {r : ρ} (h : g_X5_operatorOf σ av q = some r) (hv : ∀ a ∈ av, zval X a) : zcon X 51 σ av q r := by
  unfold g_X5_operatorOf at h
  split at h
  · exact zcon_I (n := 51) (ml := 1) (rc := 0) (st := 1) (kd := 5) (np := 1) (by decide +kernel) (by decide) rfl (Nat.le_of_ble_eq_true rfl) hv h (fun y h1 => (zin_ok (hy_X5_operatorOf hX) bk_X5_operatorOf (fun t f hf => by
      cases hf) ((e_X5_operatorOf _ _).symm.trans h1)))
  · cases h
/-! SleepWaves$LawReader.release(I)V -/
def q_X5_release_4 : List zEnt := zE 4 (.istore_n 2) 1 :: zE 5 (.aload_n 0) 1 :: zEf 6 (.getfield 37) 3 5 6 27 (0, 0, 0) :: zEk 9 (.iconst 1) 1 1 :: zE 10 .isub 1 :: zE 11 (.istore_n 3) 1 :: [zE 12 .nop 0]
def q_X5_release_3 : List zEnt := zE 3 .idiv 1 :: q_X5_release_4
def q_X5_release_0 : List zEnt := zE 0 (.iload_n 1) 1 :: zEk 1 (.bipush 10) 2 10 :: q_X5_release_3
def q_X5_release_47 : List zEnt := zEf 47 (.putfield 43) 3 5 8 29 (0, 0, 0) :: [zE 50 .nop 0]
def q_X5_release_40 : List zEnt := zE 40 (.aload_n 0) 1 :: zE 41 .dup 1 :: zEf 42 (.getfield 43) 3 5 8 29 (0, 0, 0) :: zEk 45 (.iconst 1) 1 1 :: zE 46 .isub 1 :: q_X5_release_47
def q_X5_release_37 : List zEnt := zEa 37 (.if_icmp .ne 13) 3 50 :: q_X5_release_40
def q_X5_release_35 : List zEnt := zEk 35 (.bipush 30) 2 30 :: q_X5_release_37
def q_X5_release_34 : List zEnt := zE 34 .iaload 1 :: q_X5_release_35
def q_X5_release_29 : List zEnt := zE 29 (.aload_n 0) 1 :: zEf 30 (.getfield 11) 3 5 5 26 (2, 29, 0) :: zE 33 (.iload_n 3) 1 :: q_X5_release_34
def q_X5_release_26 : List zEnt := zEa 26 (.if_icmp .lt 49) 3 75 :: q_X5_release_29
def q_X5_release_25 : List zEnt := zE 25 (.iload_n 2) 1 :: q_X5_release_26
def q_X5_release_24 : List zEnt := zE 24 .idiv 1 :: q_X5_release_25
def q_X5_release_22 : List zEnt := zEk 22 (.bipush 10) 2 10 :: q_X5_release_24
def q_X5_release_21 : List zEnt := zE 21 .iaload 1 :: q_X5_release_22
def q_X5_release_16 : List zEnt := zE 16 (.aload_n 0) 1 :: zEf 17 (.getfield 11) 3 5 5 26 (2, 29, 0) :: zE 20 (.iload_n 3) 1 :: q_X5_release_21
def q_X5_release_13 : List zEnt := zEa 13 (.ifCond .lt 62) 3 75 :: q_X5_release_16
def q_X5_release_12 : List zEnt := zE 12 (.iload_n 3) 1 :: q_X5_release_13
def q_X5_release_72 : List zEnt := zEa 72 (.goto (-60)) 3 12 :: []
def q_X5_release_69 : List zEnt := zEk 69 (.iinc 3 (-1)) 3 (-1) :: q_X5_release_72
def q_X5_release_66 : List zEnt := zEf 66 (.putfield 37) 3 5 6 27 (0, 0, 0) :: q_X5_release_69
def q_X5_release_64 : List zEnt := zE 64 (.aload_n 0) 1 :: zE 65 (.iload_n 3) 1 :: q_X5_release_66
def q_X5_release_61 : List zEnt := zEc 61 (.invokevirtual 124) 3 35 3 42 1 :: q_X5_release_64
def q_X5_release_60 : List zEnt := zEk 60 (.iconst 0) 1 0 :: q_X5_release_61
def q_X5_release_59 : List zEnt := zE 59 .iaload 1 :: q_X5_release_60
def q_X5_release_54 : List zEnt := zE 54 (.aload_n 0) 1 :: zEf 55 (.getfield 11) 3 5 5 26 (2, 29, 0) :: zE 58 (.iload_n 3) 1 :: q_X5_release_59
def q_X5_release_51 : List zEnt := zEf 51 (.getfield 21) 3 5 1 22 (3, 4, 0) :: q_X5_release_54
def q_X5_release_50 : List zEnt := zE 50 (.aload_n 0) 1 :: q_X5_release_51
def q_X5_release_75 : List zEnt := zE 75 .return_ 1 :: []
def b_X5_release : List (Nat × List zEnt) := [(0, q_X5_release_0), (12, q_X5_release_12), (50, q_X5_release_50), (75, q_X5_release_75)]
theorem bk_X5_release : zchB 48 b_X5_release = true := by decide +kernel
noncomputable def cc_X5_release {ρ : Type} : Nat → zH → List zAV → (zH → zAV → Option ρ) → Option ρ := fun n σ av q => if n = 35 then g_X4_emit σ av q else none
theorem cs_X5_release {ρ : Type} {X : zX} (hX : zHX X) : zCS X (cc_X5_release (ρ := ρ)) := by
  intro n σ av q r h hv
  unfold cc_X5_release at h
  by_cases e_X4_emit : n = 35
  · rw [if_pos e_X4_emit] at h
    subst e_X4_emit
    exact c_X4_emit hX h hv
  rw [if_neg e_X4_emit] at h
  cases h
theorem cl_X5_release_X4_emit {ρ : Type} (σ : zH) (av : List zAV) (q : zH → zAV → Option ρ) : cc_X5_release 35 σ av q = g_X4_emit σ av q := rfl
theorem hy_X5_release {ρ : Type} {X : zX} (hX : zHX X) : zHY X 48 (cc_X5_release (ρ := ρ)) := zHX.hY hX (cs_X5_release hX) (zmok_all 48 (by decide))
def gl_X5_release_12 {ρ : Type} (f : zH → Int32 → Int32 → Option ρ) (σ : zH) (L st : List zAV) : Option ρ := match L, st with
  | [.inr (.inr (.inl (5, 0))), _, .inl x2, .inl x3], [] => f σ x2 x3
  | _, _ => none
def gl_X5_release_50 {ρ : Type} (f : zH → Int32 → Int32 → Option ρ) (σ : zH) (L st : List zAV) : Option ρ := match L, st with
  | [.inr (.inr (.inl (5, 0))), _, .inl x2, .inl x3], [] => f σ x2 x3
  | _, _ => none
theorem glr_X5_release_12 {ρ : Type} (f : zH → Int32 → Int32 → Option ρ) (σ : zH) (x2 : Int32) (x3 : Int32) (y1 : zAV) : gl_X5_release_12 f σ [vR 5 0, y1, vI x2, vI x3] [] = f σ x2 x3 := rfl
theorem glr_X5_release_50 {ρ : Type} (f : zH → Int32 → Int32 → Option ρ) (σ : zH) (x2 : Int32) (x3 : Int32) (y1 : zAV) : gl_X5_release_50 f σ [vR 5 0, y1, vI x2, vI x3] [] = f σ x2 x3 := rfl
theorem t_X5_release_0 {G : Nat → zH → List zAV → List zAV → Option zH} (es : List zEnt) (σ : zH) (x1 : Int32) (y2 : zAV) (y3 : zAV) (w1 : Int32) : zev cc_X5_release G 9 krV (zE 0 (.iload_n 1) 1 :: zEk 1 (.bipush 10) 2 w1 :: es) σ [vR 5 0, vI x1, y2, y3] [] = zev cc_X5_release G 9 krV es σ [vR 5 0, vI x1, y2, y3] [vI w1, vI x1] := rfl
theorem t_X5_release_4 {G : Nat → zH → List zAV → List zAV → Option zH} (es : List zEnt) (σ : zH) (xs0 : Int32) (y1 : zAV) (y2 : zAV) (y3 : zAV) (w9 : Int32) : zev cc_X5_release G 9 krV (zE 4 (.istore_n 2) 1 :: zE 5 (.aload_n 0) 1 :: zEf 6 (.getfield 37) 3 5 6 27 (0, 0, 0) :: zEk 9 (.iconst 1) 1 w9 :: zE 10 .isub 1 :: zE 11 (.istore_n 3) 1 :: es) σ [vR 5 0, y1, y2, y3] [vI xs0] = zev cc_X5_release G 9 krV es σ [vR 5 0, (zkp y1), vI xs0, vI ((σ.1 5 0 6) - w9)] [] := rfl
theorem t_X5_release_12 {G : Nat → zH → List zAV → List zAV → Option zH} (es : List zEnt) (σ : zH) (x2 : Int32) (x3 : Int32) (y1 : zAV)  : zev cc_X5_release G 9 krV (zE 12 (.iload_n 3) 1 :: es) σ [vR 5 0, y1, vI x2, vI x3] [] = zev cc_X5_release G 9 krV es σ [vR 5 0, y1, vI x2, vI x3] [vI x3] := rfl
theorem t_X5_release_16 {G : Nat → zH → List zAV → List zAV → Option zH} (es : List zEnt) (σ : zH) (x2 : Int32) (x3 : Int32) (y1 : zAV)  : zev cc_X5_release G 9 krV (zE 16 (.aload_n 0) 1 :: zEf 17 (.getfield 11) 3 5 5 26 (2, 29, 0) :: zE 20 (.iload_n 3) 1 :: es) σ [vR 5 0, y1, vI x2, vI x3] [] = zev cc_X5_release G 9 krV es σ [vR 5 0, y1, vI x2, vI x3] [vI x3, vR 29 0] := rfl
theorem t_X5_release_22 {G : Nat → zH → List zAV → List zAV → Option zH} (es : List zEnt) (σ : zH) (x2 : Int32) (x3 : Int32) (xs0 : Int32) (y1 : zAV) (w22 : Int32) : zev cc_X5_release G 9 krV (zEk 22 (.bipush 10) 2 w22 :: es) σ [vR 5 0, y1, vI x2, vI x3] [vI xs0] = zev cc_X5_release G 9 krV es σ [vR 5 0, y1, vI x2, vI x3] [vI w22, vI xs0] := rfl
theorem t_X5_release_25 {G : Nat → zH → List zAV → List zAV → Option zH} (es : List zEnt) (σ : zH) (x2 : Int32) (x3 : Int32) (xs0 : Int32) (y1 : zAV)  : zev cc_X5_release G 9 krV (zE 25 (.iload_n 2) 1 :: es) σ [vR 5 0, y1, vI x2, vI x3] [vI xs0] = zev cc_X5_release G 9 krV es σ [vR 5 0, y1, vI x2, vI x3] [vI x2, vI xs0] := rfl
theorem t_X5_release_29 {G : Nat → zH → List zAV → List zAV → Option zH} (es : List zEnt) (σ : zH) (x2 : Int32) (x3 : Int32) (y1 : zAV)  : zev cc_X5_release G 9 krV (zE 29 (.aload_n 0) 1 :: zEf 30 (.getfield 11) 3 5 5 26 (2, 29, 0) :: zE 33 (.iload_n 3) 1 :: es) σ [vR 5 0, y1, vI x2, vI x3] [] = zev cc_X5_release G 9 krV es σ [vR 5 0, y1, vI x2, vI x3] [vI x3, vR 29 0] := rfl
theorem t_X5_release_35 {G : Nat → zH → List zAV → List zAV → Option zH} (es : List zEnt) (σ : zH) (x2 : Int32) (x3 : Int32) (xs0 : Int32) (y1 : zAV) (w35 : Int32) : zev cc_X5_release G 9 krV (zEk 35 (.bipush 30) 2 w35 :: es) σ [vR 5 0, y1, vI x2, vI x3] [vI xs0] = zev cc_X5_release G 9 krV es σ [vR 5 0, y1, vI x2, vI x3] [vI w35, vI xs0] := rfl
theorem t_X5_release_40 {G : Nat → zH → List zAV → List zAV → Option zH} (es : List zEnt) (σ : zH) (x2 : Int32) (x3 : Int32) (y1 : zAV) (w45 : Int32) : zev cc_X5_release G 9 krV (zE 40 (.aload_n 0) 1 :: zE 41 .dup 1 :: zEf 42 (.getfield 43) 3 5 8 29 (0, 0, 0) :: zEk 45 (.iconst 1) 1 w45 :: zE 46 .isub 1 :: es) σ [vR 5 0, y1, vI x2, vI x3] [] = zev cc_X5_release G 9 krV es σ [vR 5 0, y1, vI x2, vI x3] [vI ((σ.1 5 0 8) - w45), vR 5 0] := rfl
theorem t_X5_release_50 {G : Nat → zH → List zAV → List zAV → Option zH} (es : List zEnt) (σ : zH) (x2 : Int32) (x3 : Int32) (y1 : zAV)  : zev cc_X5_release G 9 krV (zE 50 (.aload_n 0) 1 :: es) σ [vR 5 0, y1, vI x2, vI x3] [] = zev cc_X5_release G 9 krV es σ [vR 5 0, y1, vI x2, vI x3] [vR 5 0] := rfl
theorem t_X5_release_54 {G : Nat → zH → List zAV → List zAV → Option zH} (es : List zEnt) (σ : zH) (x2 : Int32) (x3 : Int32) (is0 : Nat) (y1 : zAV)  : zev cc_X5_release G 9 krV (zE 54 (.aload_n 0) 1 :: zEf 55 (.getfield 11) 3 5 5 26 (2, 29, 0) :: zE 58 (.iload_n 3) 1 :: es) σ [vR 5 0, y1, vI x2, vI x3] [vR 4 is0] = zev cc_X5_release G 9 krV es σ [vR 5 0, y1, vI x2, vI x3] [vI x3, vR 29 0, vR 4 is0] := rfl
theorem t_X5_release_60 {G : Nat → zH → List zAV → List zAV → Option zH} (es : List zEnt) (σ : zH) (x2 : Int32) (x3 : Int32) (is0 : Nat) (xs1 : Int32) (y1 : zAV) (w60 : Int32) : zev cc_X5_release G 9 krV (zEk 60 (.iconst 0) 1 w60 :: es) σ [vR 5 0, y1, vI x2, vI x3] [vI xs1, vR 4 is0] = zev cc_X5_release G 9 krV es σ [vR 5 0, y1, vI x2, vI x3] [vI w60, vI xs1, vR 4 is0] := rfl
theorem t_X5_release_64 {G : Nat → zH → List zAV → List zAV → Option zH} (es : List zEnt) (σ : zH) (x2 : Int32) (x3 : Int32) (y1 : zAV)  : zev cc_X5_release G 9 krV (zE 64 (.aload_n 0) 1 :: zE 65 (.iload_n 3) 1 :: es) σ [vR 5 0, y1, vI x2, vI x3] [] = zev cc_X5_release G 9 krV es σ [vR 5 0, y1, vI x2, vI x3] [vI x3, vR 5 0] := rfl
theorem t_X5_release_69 {G : Nat → zH → List zAV → List zAV → Option zH} (es : List zEnt) (σ : zH) (x2 : Int32) (x3 : Int32) (y1 : zAV) (w69 : Int32) : zev cc_X5_release G 9 krV (zEk 69 (.iinc 3 (-1)) 3 w69 :: es) σ [vR 5 0, y1, vI x2, vI x3] [] = zev cc_X5_release G 9 krV es σ [vR 5 0, y1, vI x2, vI (x3 + w69)] [] := rfl
noncomputable def j_X5_release_50 (c12 : zH → Int32 → Int32 → Option zH) (σ : zH) (x2 : Int32) (x3 : Int32) : Option zH :=
  ix (σ.1 5 0 1) 6 fun j1 =>
  ix x3 400 fun j2 =>
  (d_X4_emit σ j1 (σ.1 29 0 j2) (0 : Int32)).bind fun σ3 =>
  zlet (uI σ3 5 0 6 x3) fun σ4 =>
  c12 σ4 x2 (x3 + (-1 : Int32))
theorem e_X5_release_50 (c12 : zH → Int32 → Int32 → Option zH) (σ : zH) (x2 : Int32) (x3 : Int32) (y1 : zAV) : j_X5_release_50 c12 σ x2 x3 = zin cc_X5_release (fun t => if t = 12 then some (gl_X5_release_12 c12) else none) 9 krV b_X5_release 50 σ [vR 5 0, y1, vI x2, vI x3] [] := by
  unfold j_X5_release_50
  refine Eq.symm ((zin_b (es := q_X5_release_50) rfl).trans ?_)
  refine (t_X5_release_50 _ _ _ _ _).trans ?_
  refine x_gf3.trans (pix fun _ => ?_)
  refine (t_X5_release_54 _ _ _ _ _ _).trans ?_
  refine (x_iald (N := 400) rfl rfl).trans (pix fun _ => ?_)
  refine (t_X5_release_60 _ _ _ _ _ _ _ _).trans ?_
  refine (x_callV rfl rfl rfl rfl).trans ((cl_X5_release_X4_emit _ _ _).trans ((gr_X4_emit _ _ _ _ _).trans (pbd fun _ => ?_)))
  refine (t_X5_release_64 _ _ _ _ _).trans ?_
  refine x_pf0.trans (plt fun _ => ?_)
  refine (t_X5_release_69 _ _ _ _ _ _).trans ?_
  refine x_goto.trans ?_
  exact (zrun_c rfl).trans (glr_X5_release_12 _ _ _ _ _)
theorem s_X5_release_50 {X : zX} (hX : zHX X) {c12 : zH → Int32 → Int32 → Option zH} (h12 : ∀ σ L st r, gl_X5_release_12 c12 σ L st = some r → zGW X 48 krV 12 σ L st r) : ∀ σ L st r, gl_X5_release_50 (j_X5_release_50 c12) σ L st = some r → zGW X 48 krV 50 σ L st r := by
  intro σ L st r h
  unfold gl_X5_release_50 at h
  split at h
  · exact zin_ok (hy_X5_release hX) bk_X5_release (fun t f hf => by
    by_cases e12 : t = 12
    · rw [if_pos e12] at hf; subst e12; cases hf; exact h12
    rw [if_neg e12] at hf
    cases hf) ((e_X5_release_50 _ _ _ _ _).symm.trans h)
  · cases h
noncomputable def k_X5_release_12  : Nat → zH → Int32 → Int32 → Option zH
  | 0, _, _, _ => none
  | n + 1, σ, x2, x3 =>
    if x3 < 0 then
      some σ
    else
      ix x3 400 fun j1 =>
      if ((σ.1 29 0 j1) / (10 : Int32)) < x2 then
        some σ
      else
        ix x3 400 fun j2 =>
        if (σ.1 29 0 j2) = (30 : Int32) then
          zlet (uI σ 5 0 8 ((σ.1 5 0 8) - (1 : Int32))) fun σ3 =>
          (j_X5_release_50 (k_X5_release_12 n)) σ3 x2 x3
        else
          (j_X5_release_50 (k_X5_release_12 n)) σ x2 x3
theorem e_X5_release_12  (n : Nat) (σ : zH) (x2 : Int32) (x3 : Int32) (y1 : zAV) : k_X5_release_12 (n + 1) σ x2 x3 = zin cc_X5_release (fun t => if t = 50 then some (gl_X5_release_50 (j_X5_release_50 (k_X5_release_12 n))) else none) 9 krV b_X5_release 12 σ [vR 5 0, y1, vI x2, vI x3] [] := by
  rw [k_X5_release_12]
  refine Eq.symm ((zin_b (es := q_X5_release_12) rfl).trans ?_)
  refine (t_X5_release_12 _ _ _ _ _).trans ?_
  refine x_if.trans (pif_lt ?_ ?_)
  · refine (zrun_b (es := q_X5_release_75) rfl rfl).trans ?_
    exact x_vret
  · refine (t_X5_release_16 _ _ _ _ _).trans ?_
    refine (x_iald (N := 400) rfl rfl).trans (pix fun _ => ?_)
    refine (t_X5_release_22 _ _ _ _ _ _ _).trans ?_
    refine (x_idiv.trans (nz_l (by decide +kernel))).trans ?_
    refine (t_X5_release_25 _ _ _ _ _ _).trans ?_
    refine x_icmp.trans (pif_lt ?_ ?_)
    · refine (zrun_b (es := q_X5_release_75) rfl rfl).trans ?_
      exact x_vret
    · refine (t_X5_release_29 _ _ _ _ _).trans ?_
      refine (x_iald (N := 400) rfl rfl).trans (pix fun _ => ?_)
      refine (t_X5_release_35 _ _ _ _ _ _ _).trans ?_
      refine x_icmp.trans (pif_ne ?_ ?_)
      · exact (zrun_c rfl).trans (glr_X5_release_50 _ _ _ _ _)
      · refine (t_X5_release_40 _ _ _ _ _ _).trans ?_
        refine x_pf0.trans (plt fun _ => ?_)
        refine x_cut.trans ?_
        exact (zrun_c rfl).trans (glr_X5_release_50 _ _ _ _ _)
theorem s_X5_release_12 {X : zX} (hX : zHX X)   : ∀ n σ L st r, gl_X5_release_12 (k_X5_release_12 n) σ L st = some r → zGW X 48 krV 12 σ L st r := by
  intro n
  induction n with
  | zero =>
    intro σ L st r h
    unfold gl_X5_release_12 at h
    split at h <;> cases h
  | succ n ih =>
    intro σ L st r h
    unfold gl_X5_release_12 at h
    split at h
    · exact zin_ok (hy_X5_release hX) bk_X5_release (fun t f hf => by
      by_cases e50 : t = 50
      · rw [if_pos e50] at hf; subst e50; cases hf; exact (s_X5_release_50 hX ih)
      rw [if_neg e50] at hf
      cases hf) ((e_X5_release_12 _ _ _ _ _).symm.trans h)
    · cases h
noncomputable def d_X5_release (σ : zH) (xa1 : Int32) : Option zH :=
  (k_X5_release_12 zN) σ (xa1 / (10 : Int32)) ((σ.1 5 0 6) - (1 : Int32))
theorem e_X5_release (σ : zH) (xa1 : Int32) : d_X5_release σ xa1 = zin cc_X5_release (fun t => if t = 12 then some (gl_X5_release_12 (k_X5_release_12 zN)) else none) 9 krV b_X5_release 0 σ [vR 5 0, vI xa1, vU, vU] [] := by
  unfold d_X5_release
  refine Eq.symm ((zin_b (es := q_X5_release_0) rfl).trans ?_)
  refine (t_X5_release_0 _ _ _ _ _ _).trans ?_
  refine (x_idiv.trans (nz_l (by decide +kernel))).trans ?_
  refine (t_X5_release_4 _ _ _ _ _ _ _).trans ?_
  refine x_cut.trans ?_
  exact (zrun_c rfl).trans (glr_X5_release_12 _ _ _ _ _)
noncomputable def g_X5_release {ρ : Type} (σ : zH) (av : List zAV) (q : zH → zAV → Option ρ) : Option ρ := match av with
  | [.inr (.inr (.inl (5, 0))), .inl xa1] => (d_X5_release σ xa1).bind fun σ => q σ vU
  | _ => none
theorem gr_X5_release {ρ : Type} (σ : zH) (xa1 : Int32) (q : zH → zAV → Option ρ) : g_X5_release σ [vR 5 0, vI xa1] q = (d_X5_release σ xa1).bind fun σ => q σ vU := rfl
theorem c_X5_release {ρ : Type} {X : zX} (hX : zHX X) {σ : zH} {av : List zAV} {q : zH → zAV → Option ρ} {r : ρ} (h : g_X5_release σ av q = some r) (hv : ∀ a ∈ av, zval X a) : zcon X 48 σ av q r := by
  unfold g_X5_release at h
  split at h
  · exact zcon_V (n := 48) (ml := 4) (rc := 9) (st := 0) (kd := 5) (np := 1) (by decide +kernel) rfl ⟨_, _, rfl, rfl⟩ (Nat.le_of_ble_eq_true rfl) hv h (fun y h1 => (zin_ok (hy_X5_release hX) bk_X5_release (fun t f hf => by
      by_cases e12 : t = 12
      · rw [if_pos e12] at hf; subst e12; cases hf; exact ((fun σ L st r h => s_X5_release_12 hX  zN σ L st r h))
      rw [if_neg e12] at hf
      cases hf) ((e_X5_release _ _).symm.trans h1)))
  · cases h
