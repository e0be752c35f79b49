/-! SleepWavesModel.struck(IIII)I -/
def q_X11_struck_47 : List zEnt := zEa 47 (.goto 12) 3 59 :: []
def q_X11_struck_46 : List zEnt := zEk 46 (.iconst (-1)) 1 (-1) :: q_X11_struck_47
def q_X11_struck_43 : List zEnt := zEa 43 (.ifCond .ne 7) 3 50 :: q_X11_struck_46
def q_X11_struck_40 : List zEnt := zEc 40 (.invokestatic 173) 3 125 3 129 0 :: q_X11_struck_43
def q_X11_struck_33 : List zEnt := zE 33 (.iload 4) 2 :: zE 35 .i2l 1 :: (36, (.lconst 0), 1, (0, 0, 0, 0), (0, 0, 0), 0, 0, []) :: (37, (.ldc2_w 442), 3, (0, 0, 1604, 0), (0, 0, 0), 0, 4, []) :: q_X11_struck_40
def q_X11_struck_30 : List zEnt := zEa 30 (.ifCond .eq 16) 3 46 :: q_X11_struck_33
def q_X11_struck_27 : List zEnt := zEc 27 (.invokestatic 173) 3 125 3 129 0 :: q_X11_struck_30
def q_X11_struck_20 : List zEnt := zE 20 (.iload_n 2) 1 :: zE 21 .i2l 1 :: (22, (.lconst 0), 1, (0, 0, 0, 0), (0, 0, 0), 0, 0, []) :: zE 23 (.iload_n 3) 1 :: zEk 24 (.iconst 1) 1 1 :: zE 25 .isub 1 :: zE 26 .i2l 1 :: q_X11_struck_27
def q_X11_struck_17 : List zEnt := zEa 17 (.ifCond .eq 29) 3 46 :: q_X11_struck_20
def q_X11_struck_14 : List zEnt := zEc 14 (.invokestatic 173) 3 125 3 129 0 :: q_X11_struck_17
def q_X11_struck_8 : List zEnt := zE 8 (.iload_n 3) 1 :: zE 9 .i2l 1 :: (10, (.lconst 0), 1, (0, 0, 0, 0), (0, 0, 0), 0, 0, []) :: (11, (.ldc2_w 440), 3, (0, 0, 1603, 0), (0, 0, 0), 0, 192, []) :: q_X11_struck_14
def q_X11_struck_5 : List zEnt := zEa 5 (.ifCond .eq 41) 3 46 :: q_X11_struck_8
def q_X11_struck_2 : List zEnt := zEc 2 (.invokevirtual 418) 3 164 2 145 0 :: q_X11_struck_5
def q_X11_struck_0 : List zEnt := zE 0 (.aload_n 0) 1 :: zE 1 (.iload_n 1) 1 :: q_X11_struck_2
def q_X11_struck_59 : List zEnt := zE 59 .ireturn 1 :: []
def q_X11_struck_56 : List zEnt := zEc 56 (.invokevirtual 444) 3 189 5 168 0 :: q_X11_struck_59
def q_X11_struck_50 : List zEnt := zE 50 (.aload_n 0) 1 :: zE 51 (.iload_n 1) 1 :: zE 52 (.iload_n 2) 1 :: zE 53 (.iload_n 3) 1 :: zE 54 (.iload 4) 2 :: q_X11_struck_56
def b_X11_struck : List (Nat × List zEnt) := [(0, q_X11_struck_0), (46, q_X11_struck_46), (50, q_X11_struck_50), (59, q_X11_struck_59)]
theorem bk_X11_struck : zchB 191 b_X11_struck = true := by decide +kernel
noncomputable def cc_X11_struck {ρ : Type} : Nat → zH → List zAV → (zH → zAV → Option ρ) → Option ρ := fun n σ av q => if n = 164 then g_X11_isLaw σ av q else if n = 125 then g_X11_in σ av q else if n = 189 then g_X11_tries σ av q else none
theorem cs_X11_struck {ρ : Type} {X : zX} (hX : zHX X) : zCS X (cc_X11_struck (ρ := ρ)) := by
  intro n σ av q r h hv
  unfold cc_X11_struck at h
  by_cases e_X11_isLaw : n = 164
  · rw [if_pos e_X11_isLaw] at h
    subst e_X11_isLaw
    exact c_X11_isLaw hX h hv
  rw [if_neg e_X11_isLaw] at h
  by_cases e_X11_in : n = 125
  · rw [if_pos e_X11_in] at h
    subst e_X11_in
    exact c_X11_in hX h hv
  rw [if_neg e_X11_in] at h
  by_cases e_X11_tries : n = 189
  · rw [if_pos e_X11_tries] at h
    subst e_X11_tries
    exact c_X11_tries hX h hv
  rw [if_neg e_X11_tries] at h
  cases h
theorem cl_X11_struck_X11_isLaw {ρ : Type} (σ : zH) (av : List zAV) (q : zH → zAV → Option ρ) : cc_X11_struck 164 σ av q = g_X11_isLaw σ av q := rfl
theorem cl_X11_struck_X11_in {ρ : Type} (σ : zH) (av : List zAV) (q : zH → zAV → Option ρ) : cc_X11_struck 125 σ av q = g_X11_in σ av q := rfl
theorem cl_X11_struck_X11_tries {ρ : Type} (σ : zH) (av : List zAV) (q : zH → zAV → Option ρ) : cc_X11_struck 189 σ av q = g_X11_tries σ av q := rfl
theorem hy_X11_struck {ρ : Type} {X : zX} (hX : zHX X) : zHY X 191 (cc_X11_struck (ρ := ρ)) := zHX.hY hX (cs_X11_struck hX) (zmok_all 191 (by decide))
theorem t_X11_struck_0 {G : Nat → zH → List zAV → List zAV → Option (zH × Int32)} (es : List zEnt) (σ : zH) (x1 : Int32) (x2 : Int32) (x3 : Int32) (x4 : Int32)   : zev cc_X11_struck G 0 krI (zE 0 (.aload_n 0) 1 :: zE 1 (.iload_n 1) 1 :: es) σ [vR 11 0, vI x1, vI x2, vI x3, vI x4] [] = zev cc_X11_struck G 0 krI es σ [vR 11 0, vI x1, vI x2, vI x3, vI x4] [vI x1, vR 11 0] := rfl
theorem t_X11_struck_8 {G : Nat → zH → List zAV → List zAV → Option (zH × Int32)} (es : List zEnt) (σ : zH) (x1 : Int32) (x2 : Int32) (x3 : Int32) (x4 : Int32)  (w10 : Int64) (w11 : Int64) : zev cc_X11_struck G 0 krI (zE 8 (.iload_n 3) 1 :: zE 9 .i2l 1 :: (10, (.lconst 0), 1, (0, 0, 0, 0), (0, 0, 0), 0, w10, []) :: (11, (.ldc2_w 440), 3, (0, 0, 1603, 0), (0, 0, 0), 0, w11, []) :: es) σ [vR 11 0, vI x1, vI x2, vI x3, vI x4] [] = zev cc_X11_struck G 0 krI es σ [vR 11 0, vI x1, vI x2, vI x3, vI x4] [vL w11, vL w10, vL x3.toInt64] := rfl
theorem t_X11_struck_20 {G : Nat → zH → List zAV → List zAV → Option (zH × Int32)} (es : List zEnt) (σ : zH) (x1 : Int32) (x2 : Int32) (x3 : Int32) (x4 : Int32)  (w22 : Int64) (w24 : Int32) : zev cc_X11_struck G 0 krI (zE 20 (.iload_n 2) 1 :: zE 21 .i2l 1 :: (22, (.lconst 0), 1, (0, 0, 0, 0), (0, 0, 0), 0, w22, []) :: zE 23 (.iload_n 3) 1 :: zEk 24 (.iconst 1) 1 w24 :: zE 25 .isub 1 :: zE 26 .i2l 1 :: es) σ [vR 11 0, vI x1, vI x2, vI x3, vI x4] [] = zev cc_X11_struck G 0 krI es σ [vR 11 0, vI x1, vI x2, vI x3, vI x4] [vL (x3 - w24).toInt64, vL w22, vL x2.toInt64] := rfl
theorem t_X11_struck_33 {G : Nat → zH → List zAV → List zAV → Option (zH × Int32)} (es : List zEnt) (σ : zH) (x1 : Int32) (x2 : Int32) (x3 : Int32) (x4 : Int32)  (w36 : Int64) (w37 : Int64) : zev cc_X11_struck G 0 krI (zE 33 (.iload 4) 2 :: zE 35 .i2l 1 :: (36, (.lconst 0), 1, (0, 0, 0, 0), (0, 0, 0), 0, w36, []) :: (37, (.ldc2_w 442), 3, (0, 0, 1604, 0), (0, 0, 0), 0, w37, []) :: es) σ [vR 11 0, vI x1, vI x2, vI x3, vI x4] [] = zev cc_X11_struck G 0 krI es σ [vR 11 0, vI x1, vI x2, vI x3, vI x4] [vL w37, vL w36, vL x4.toInt64] := rfl
theorem t_X11_struck_46 {G : Nat → zH → List zAV → List zAV → Option (zH × Int32)} (es : List zEnt) (σ : zH)  (y0 : zAV) (y1 : zAV) (y2 : zAV) (y3 : zAV) (y4 : zAV) (w46 : Int32) : zev cc_X11_struck G 0 krI (zEk 46 (.iconst (-1)) 1 w46 :: es) σ [y0, y1, y2, y3, y4] [] = zev cc_X11_struck G 0 krI es σ [y0, y1, y2, y3, y4] [vI w46] := rfl
theorem t_X11_struck_50 {G : Nat → zH → List zAV → List zAV → Option (zH × Int32)} (es : List zEnt) (σ : zH) (x1 : Int32) (x2 : Int32) (x3 : Int32) (x4 : Int32)   : zev cc_X11_struck G 0 krI (zE 50 (.aload_n 0) 1 :: zE 51 (.iload_n 1) 1 :: zE 52 (.iload_n 2) 1 :: zE 53 (.iload_n 3) 1 :: zE 54 (.iload 4) 2 :: es) σ [vR 11 0, vI x1, vI x2, vI x3, vI x4] [] = zev cc_X11_struck G 0 krI es σ [vR 11 0, vI x1, vI x2, vI x3, vI x4] [vI x4, vI x3, vI x2, vI x1, vR 11 0] := rfl
noncomputable def d_X11_struck (σ : zH) (xa1 : Int32) (xa2 : Int32) (xa3 : Int32) (xa4 : Int32) : Option (zH × Int32) :=
  (d_X11_isLaw σ xa1).bind fun p1 =>
  if p1.2 = 0 then
    some (p1.1, (-1 : Int32))
  else
    (d_X11_in p1.1 xa3.toInt64 (0 : Int64) (192 : Int64)).bind fun p2 =>
    if p2.2 = 0 then
      some (p2.1, (-1 : Int32))
    else
      (d_X11_in p2.1 xa2.toInt64 (0 : Int64) ((xa3 - (1 : Int32)).toInt64)).bind fun p3 =>
      if p3.2 = 0 then
        some (p3.1, (-1 : Int32))
      else
        (d_X11_in p3.1 xa4.toInt64 (0 : Int64) (4 : Int64)).bind fun p4 =>
        if p4.2 = 0 then
          some (p4.1, (-1 : Int32))
        else
          (d_X11_tries p4.1 xa1 xa2 xa3 xa4).bind fun p5 =>
          some (p5.1, p5.2)
theorem e_X11_struck (σ : zH) (xa1 : Int32) (xa2 : Int32) (xa3 : Int32) (xa4 : Int32) : d_X11_struck σ xa1 xa2 xa3 xa4 = zin cc_X11_struck (fun t => none) 0 krI b_X11_struck 0 σ [vR 11 0, vI xa1, vI xa2, vI xa3, vI xa4] [] := by
  unfold d_X11_struck
  refine Eq.symm ((zin_b (es := q_X11_struck_0) rfl).trans ?_)
  refine (t_X11_struck_0 _ _ _ _ _ _).trans ?_
  refine (x_callV rfl rfl rfl rfl).trans ((cl_X11_struck_X11_isLaw _ _ _).trans ((gr_X11_isLaw _ _ _).trans (pbd fun _ => ?_)))
  refine x_if.trans (pif_eq ?_ ?_)
  · refine (zrun_b (es := q_X11_struck_46) rfl rfl).trans ?_
    refine (t_X11_struck_46 _ _ _ _ _ _ _ _).trans ?_
    refine x_goto.trans ?_
    refine (zrun_b (es := q_X11_struck_59) rfl rfl).trans ?_
    exact x_iret
  · refine (t_X11_struck_8 _ _ _ _ _ _ _ _).trans ?_
    refine (x_callS rfl rfl rfl rfl).trans ((cl_X11_struck_X11_in _ _ _).trans ((gr_X11_in _ _ _ _ _).trans (pbd fun _ => ?_)))
    refine x_if.trans (pif_eq ?_ ?_)
    · refine (zrun_b (es := q_X11_struck_46) rfl rfl).trans ?_
      refine (t_X11_struck_46 _ _ _ _ _ _ _ _).trans ?_
      refine x_goto.trans ?_
      refine (zrun_b (es := q_X11_struck_59) rfl rfl).trans ?_
      exact x_iret
    · refine (t_X11_struck_20 _ _ _ _ _ _ _ _).trans ?_
      refine (x_callS rfl rfl rfl rfl).trans ((cl_X11_struck_X11_in _ _ _).trans ((gr_X11_in _ _ _ _ _).trans (pbd fun _ => ?_)))
      refine x_if.trans (pif_eq ?_ ?_)
      · refine (zrun_b (es := q_X11_struck_46) rfl rfl).trans ?_
        refine (t_X11_struck_46 _ _ _ _ _ _ _ _).trans ?_
        refine x_goto.trans ?_
        refine (zrun_b (es := q_X11_struck_59) rfl rfl).trans ?_
        exact x_iret
      · refine (t_X11_struck_33 _ _ _ _ _ _ _ _).trans ?_
        refine (x_callS rfl rfl rfl rfl).trans ((cl_X11_struck_X11_in _ _ _).trans ((gr_X11_in _ _ _ _ _).trans (pbd fun _ => ?_)))
        refine x_if.trans (pif_ne ?_ ?_)
        · refine (zrun_b (es := q_X11_struck_50) rfl rfl).trans ?_
          refine (t_X11_struck_50 _ _ _ _ _ _).trans ?_
          refine (x_callV rfl rfl rfl rfl).trans ((cl_X11_struck_X11_tries _ _ _).trans ((gr_X11_tries _ _ _ _ _ _).trans (pbd fun _ => ?_)))
          exact x_iret
        · refine (t_X11_struck_46 _ _ _ _ _ _ _ _).trans ?_
          refine x_goto.trans ?_
          refine (zrun_b (es := q_X11_struck_59) rfl rfl).trans ?_
          exact x_iret
noncomputable def g_X11_struck {ρ : Type} (σ : zH) (av : List zAV) (q : zH → zAV → Option ρ) : Option ρ := match av with
  | [.inr (.inr (.inl (11, 0))), .inl xa1, .inl xa2, .inl xa3, .inl xa4] => (d_X11_struck σ xa1 xa2 xa3 xa4).bind fun p => q p.1 (vI p.2)
  | _ => none
theorem gr_X11_struck {ρ : Type} (σ : zH) (xa1 : Int32) (xa2 : Int32) (xa3 : Int32) (xa4 : Int32) (q : zH → zAV → Option ρ) : g_X11_struck σ [vR 11 0, vI xa1, vI xa2, vI xa3, vI xa4] q = (d_X11_struck σ xa1 xa2 xa3 xa4).bind fun p => q p.1 (vI p.2) := rfl
theorem c_X11_struck {ρ : Type} {X : zX} (hX : zHX X) {σ : zH} {av : List zAV} {q : zH → zAV → Option ρ} {r : ρ} (h : g_X11_struck σ av q = some r) (hv : ∀ a ∈ av, zval X a) : zcon X 191 σ av q r := by
  unfold g_X11_struck at h
  split at h
  · exact zcon_I (n := 191) (ml := 5) (rc := 0) (st := 0) (kd := 11) (np := 4) (by decide +kernel) (by decide) ⟨_, _, rfl, rfl⟩ (Nat.le_of_ble_eq_true rfl) hv h (fun y h1 => (zin_ok (hy_X11_struck hX) bk_X11_struck (fun t f hf => by
      cases hf) ((e_X11_struck _ _ _ _ _).symm.trans h1)))
  · cases h
/-! SleepWavesModel.turns(IIIII)Z -/
def q_X11_turns_4 : List zEnt := zEk 4 (.iconst 0) 1 0 :: zE 5 (.istore 6) 2 :: [zE 7 .nop 0]
def q_X11_turns_1 : List zEnt := zEc 1 (.invokevirtual 431) 3 187 1 169 1 :: q_X11_turns_4
def q_X11_turns_0 : List zEnt := zE 0 (.aload_n 0) 1 :: q_X11_turns_1
def q_X11_turns_35 : List zEnt := zEa 35 (.goto 10) 3 45 :: []
def q_X11_turns_32 : List zEnt := zE 32 (.iload 5) 2 :: zE 34 .iadd 1 :: q_X11_turns_35
def q_X11_turns_31 : List zEnt := zE 31 .iaload 1 :: q_X11_turns_32
def q_X11_turns_26 : List zEnt := zE 26 (.aload_n 0) 1 :: zEf 27 (.getfield 7) 3 11 1 149 (2, 42, 0) :: zEk 30 (.iconst 4) 1 4 :: q_X11_turns_31
def q_X11_turns_23 : List zEnt := zEa 23 (.if_icmp .ne 15) 3 38 :: q_X11_turns_26
def q_X11_turns_13 : List zEnt := zE 13 (.aload_n 0) 1 :: zEf 14 (.getfield 7) 3 11 1 149 (2, 42, 0) :: zEk 17 (.bipush 8) 2 8 :: zE 19 (.iload 6) 2 :: zE 21 (.iload 4) 2 :: q_X11_turns_23
def q_X11_turns_10 : List zEnt := zEa 10 (.if_icmp .ge 47) 3 57 :: q_X11_turns_13
def q_X11_turns_7 : List zEnt := zE 7 (.iload 6) 2 :: zE 9 (.iload_n 3) 1 :: q_X11_turns_10
def q_X11_turns_44 : List zEnt := zE 44 .iaload 1 :: [zE 45 .nop 0]
def q_X11_turns_38 : List zEnt := zE 38 (.aload_n 0) 1 :: zEf 39 (.getfield 7) 3 11 1 149 (2, 42, 0) :: zEk 42 (.bipush 8) 2 8 :: q_X11_turns_44
def q_X11_turns_54 : List zEnt := zEa 54 (.goto (-47)) 3 7 :: []
def q_X11_turns_51 : List zEnt := zEk 51 (.iinc 6 1) 3 1 :: q_X11_turns_54
def q_X11_turns_48 : List zEnt := zEc 48 (.invokevirtual 423) 3 180 2 146 1 :: q_X11_turns_51
def q_X11_turns_46 : List zEnt := zE 46 (.aload_n 0) 1 :: zE 47 (.iload_n 1) 1 :: q_X11_turns_48
def q_X11_turns_45 : List zEnt := zE 45 .iastore 1 :: q_X11_turns_46
def q_X11_turns_79 : List zEnt := zEa 79 (.goto 4) 3 83 :: []
def q_X11_turns_78 : List zEnt := zEk 78 (.iconst 1) 1 1 :: q_X11_turns_79
def q_X11_turns_75 : List zEnt := zEa 75 (.if_icmp .ne 7) 3 82 :: q_X11_turns_78
def q_X11_turns_68 : List zEnt := zE 68 .ishl 1 :: zEk 69 (.iconst 1) 1 1 :: zE 70 .isub 1 :: zE 71 (.iload_n 2) 1 :: zEk 72 (.iconst (-1)) 1 (-1) :: zE 73 .ixor 1 :: zE 74 .iand 1 :: q_X11_turns_75
def q_X11_turns_67 : List zEnt := zE 67 .iaload 1 :: q_X11_turns_68
def q_X11_turns_61 : List zEnt := zEk 61 (.iconst 1) 1 1 :: zE 62 (.aload_n 0) 1 :: zEf 63 (.getfield 7) 3 11 1 149 (2, 42, 0) :: zEk 66 (.iconst 0) 1 0 :: q_X11_turns_67
def q_X11_turns_58 : List zEnt := zEc 58 (.invokevirtual 356) 3 128 1 147 0 :: q_X11_turns_61
def q_X11_turns_57 : List zEnt := zE 57 (.aload_n 0) 1 :: q_X11_turns_58
def q_X11_turns_82 : List zEnt := zEk 82 (.iconst 0) 1 0 :: [zE 83 .nop 0]
def q_X11_turns_108 : List zEnt := zE 108 .ireturn 1 :: []
def q_X11_turns_106 : List zEnt := zE 106 (.iload 6) 2 :: q_X11_turns_108
def q_X11_turns_103 : List zEnt := zEc 103 (.invokevirtual 437) 3 188 1 171 1 :: q_X11_turns_106
def q_X11_turns_102 : List zEnt := zE 102 (.aload_n 0) 1 :: q_X11_turns_103
def q_X11_turns_99 : List zEnt := zEf 99 (.putfield 448) 3 11 60 208 (0, 0, 0) :: q_X11_turns_102
def q_X11_turns_98 : List zEnt := zE 98 .isub 1 :: q_X11_turns_99
def q_X11_turns_97 : List zEnt := zE 97 .iaload 1 :: q_X11_turns_98
def q_X11_turns_92 : List zEnt := zE 92 (.aload_n 0) 1 :: zEf 93 (.getfield 133) 3 11 51 199 (2, 80, 0) :: zEk 96 (.iconst 5) 1 5 :: q_X11_turns_97
def q_X11_turns_91 : List zEnt := zE 91 .iaload 1 :: q_X11_turns_92
def q_X11_turns_83 : List zEnt := zE 83 (.istore 6) 2 :: zE 85 (.aload_n 0) 1 :: zE 86 (.aload_n 0) 1 :: zEf 87 (.getfield 7) 3 11 1 149 (2, 42, 0) :: zEk 90 (.iconst 5) 1 5 :: q_X11_turns_91
def b_X11_turns : List (Nat × List zEnt) := [(0, q_X11_turns_0), (7, q_X11_turns_7), (38, q_X11_turns_38), (45, q_X11_turns_45), (57, q_X11_turns_57), (82, q_X11_turns_82), (83, q_X11_turns_83)]
theorem bk_X11_turns : zchB 192 b_X11_turns = true := by decide +kernel
noncomputable def cc_X11_turns {ρ : Type} : Nat → zH → List zAV → (zH → zAV → Option ρ) → Option ρ := fun n σ av q => if n = 187 then g_X11_keeps σ av q else if n = 180 then g_X11_quarter σ av q else if n = 128 then g_X11_upSet σ av q else if n = 188 then g_X11_laysBack σ av q else none
theorem cs_X11_turns {ρ : Type} {X : zX} (hX : zHX X) : zCS X (cc_X11_turns (ρ := ρ)) := by
  intro n σ av q r h hv
  unfold cc_X11_turns at h
  by_cases e_X11_keeps : n = 187
  · rw [if_pos e_X11_keeps] at h
    subst e_X11_keeps
    exact c_X11_keeps hX h hv
  rw [if_neg e_X11_keeps] at h
  by_cases e_X11_quarter : n = 180
  · rw [if_pos e_X11_quarter] at h
    subst e_X11_quarter
    exact c_X11_quarter hX h hv
  rw [if_neg e_X11_quarter] at h
  by_cases e_X11_upSet : n = 128
  · rw [if_pos e_X11_upSet] at h
    subst e_X11_upSet
    exact c_X11_upSet hX h hv
  rw [if_neg e_X11_upSet] at h
  by_cases e_X11_laysBack : n = 188
  · rw [if_pos e_X11_laysBack] at h
    subst e_X11_laysBack
    exact c_X11_laysBack hX h hv
  rw [if_neg e_X11_laysBack] at h
  cases h
theorem cl_X11_turns_X11_keeps {ρ : Type} (σ : zH) (av : List zAV) (q : zH → zAV → Option ρ) : cc_X11_turns 187 σ av q = g_X11_keeps σ av q := rfl
theorem cl_X11_turns_X11_quarter {ρ : Type} (σ : zH) (av : List zAV) (q : zH → zAV → Option ρ) : cc_X11_turns 180 σ av q = g_X11_quarter σ av q := rfl
theorem cl_X11_turns_X11_upSet {ρ : Type} (σ : zH) (av : List zAV) (q : zH → zAV → Option ρ) : cc_X11_turns 128 σ av q = g_X11_upSet σ av q := rfl
theorem cl_X11_turns_X11_laysBack {ρ : Type} (σ : zH) (av : List zAV) (q : zH → zAV → Option ρ) : cc_X11_turns 188 σ av q = g_X11_laysBack σ av q := rfl
theorem hy_X11_turns {ρ : Type} {X : zX} (hX : zHX X) : zHY X 192 (cc_X11_turns (ρ := ρ)) := zHX.hY hX (cs_X11_turns hX) (zmok_all 192 (by decide))
def gl_X11_turns_7 {ρ : Type} (f : zH → Int32 → Int32 → Int32 → Int32 → Int32 → Int32 → Option ρ) (σ : zH) (L st : List zAV) : Option ρ := match L, st with
  | [.inr (.inr (.inl (11, 0))), .inl x1, .inl x2, .inl x3, .inl x4, .inl x5, .inl x6], [] => f σ x1 x2 x3 x4 x5 x6
  | _, _ => none
def gl_X11_turns_45 {ρ : Type} (f : zH → Int32 → Int32 → Int32 → Int32 → Int32 → Int32 → Int32 → Int32 → Option ρ) (σ : zH) (L st : List zAV) : Option ρ := match L, st with
  | [.inr (.inr (.inl (11, 0))), .inl x1, .inl x2, .inl x3, .inl x4, .inl x5, .inl x6], [.inl xs2, .inl xs1, .inr (.inr (.inl (42, 0)))] => f σ x1 x2 x3 x4 x5 x6 xs1 xs2
  | _, _ => none
def gl_X11_turns_57 {ρ : Type} (f : zH → Int32 → Option ρ) (σ : zH) (L st : List zAV) : Option ρ := match L, st with
  | [.inr (.inr (.inl (11, 0))), _, .inl x2, _, _, _, _], [] => f σ x2
  | _, _ => none
def gl_X11_turns_83 {ρ : Type} (f : zH → Int32 → Option ρ) (σ : zH) (L st : List zAV) : Option ρ := match L, st with
  | [.inr (.inr (.inl (11, 0))), _, _, _, _, _, _], [.inl xs0] => f σ xs0
  | _, _ => none
theorem glr_X11_turns_7 {ρ : Type} (f : zH → Int32 → Int32 → Int32 → Int32 → Int32 → Int32 → Option ρ) (σ : zH) (x1 : Int32) (x2 : Int32) (x3 : Int32) (x4 : Int32) (x5 : Int32) (x6 : Int32)  : gl_X11_turns_7 f σ [vR 11 0, vI x1, vI x2, vI x3, vI x4, vI x5, vI x6] [] = f σ x1 x2 x3 x4 x5 x6 := rfl
theorem glr_X11_turns_45 {ρ : Type} (f : zH → Int32 → Int32 → Int32 → Int32 → Int32 → Int32 → Int32 → Int32 → Option ρ) (σ : zH) (x1 : Int32) (x2 : Int32) (x3 : Int32) (x4 : Int32) (x5 : Int32) (x6 : Int32) (xs1 : Int32) (xs2 : Int32)  : gl_X11_turns_45 f σ [vR 11 0, vI x1, vI x2, vI x3, vI x4, vI x5, vI x6] [vI xs2, vI xs1, vR 42 0] = f σ x1 x2 x3 x4 x5 x6 xs1 xs2 := rfl
theorem glr_X11_turns_57 {ρ : Type} (f : zH → Int32 → Option ρ) (σ : zH) (x2 : Int32) (y1 : zAV) (y3 : zAV) (y4 : zAV) (y5 : zAV) (y6 : zAV) : gl_X11_turns_57 f σ [vR 11 0, y1, vI x2, y3, y4, y5, y6] [] = f σ x2 := rfl
theorem glr_X11_turns_83 {ρ : Type} (f : zH → Int32 → Option ρ) (σ : zH) (xs0 : Int32) (y1 : zAV) (y2 : zAV) (y3 : zAV) (y4 : zAV) (y5 : zAV) (y6 : zAV) : gl_X11_turns_83 f σ [vR 11 0, y1, y2, y3, y4, y5, y6] [vI xs0] = f σ xs0 := rfl
theorem t_X11_turns_0 {G : Nat → zH → List zAV → List zAV → Option (zH × Int32)} (es : List zEnt) (σ : zH) (x1 : Int32) (x2 : Int32) (x3 : Int32) (x4 : Int32) (x5 : Int32) (y6 : zAV)  : zev cc_X11_turns G 1 krI (zE 0 (.aload_n 0) 1 :: es) σ [vR 11 0, vI x1, vI x2, vI x3, vI x4, vI x5, y6] [] = zev cc_X11_turns G 1 krI es σ [vR 11 0, vI x1, vI x2, vI x3, vI x4, vI x5, y6] [vR 11 0] := rfl
theorem t_X11_turns_4 {G : Nat → zH → List zAV → List zAV → Option (zH × Int32)} (es : List zEnt) (σ : zH) (x1 : Int32) (x2 : Int32) (x3 : Int32) (x4 : Int32) (x5 : Int32) (y6 : zAV) (w4 : Int32) : zev cc_X11_turns G 1 krI (zEk 4 (.iconst 0) 1 w4 :: zE 5 (.istore 6) 2 :: es) σ [vR 11 0, vI x1, vI x2, vI x3, vI x4, vI x5, y6] [] = zev cc_X11_turns G 1 krI es σ [vR 11 0, vI x1, vI x2, vI x3, vI x4, vI x5, vI w4] [] := rfl
theorem t_X11_turns_7 {G : Nat → zH → List zAV → List zAV → Option (zH × Int32)} (es : List zEnt) (σ : zH) (x1 : Int32) (x2 : Int32) (x3 : Int32) (x4 : Int32) (x5 : Int32) (x6 : Int32)   : zev cc_X11_turns G 1 krI (zE 7 (.iload 6) 2 :: zE 9 (.iload_n 3) 1 :: es) σ [vR 11 0, vI x1, vI x2, vI x3, vI x4, vI x5, vI x6] [] = zev cc_X11_turns G 1 krI es σ [vR 11 0, vI x1, vI x2, vI x3, vI x4, vI x5, vI x6] [vI x3, vI x6] := rfl
theorem t_X11_turns_13 {G : Nat → zH → List zAV → List zAV → Option (zH × Int32)} (es : List zEnt) (σ : zH) (x1 : Int32) (x2 : Int32) (x3 : Int32) (x4 : Int32) (x5 : Int32) (x6 : Int32)  (w17 : Int32) : zev cc_X11_turns G 1 krI (zE 13 (.aload_n 0) 1 :: zEf 14 (.getfield 7) 3 11 1 149 (2, 42, 0) :: zEk 17 (.bipush 8) 2 w17 :: zE 19 (.iload 6) 2 :: zE 21 (.iload 4) 2 :: es) σ [vR 11 0, vI x1, vI x2, vI x3, vI x4, vI x5, vI x6] [] = zev cc_X11_turns G 1 krI es σ [vR 11 0, vI x1, vI x2, vI x3, vI x4, vI x5, vI x6] [vI x4, vI x6, vI w17, vR 42 0] := rfl
theorem t_X11_turns_26 {G : Nat → zH → List zAV → List zAV → Option (zH × Int32)} (es : List zEnt) (σ : zH) (x1 : Int32) (x2 : Int32) (x3 : Int32) (x4 : Int32) (x5 : Int32) (x6 : Int32) (xs1 : Int32)  (w30 : Int32) : zev cc_X11_turns G 1 krI (zE 26 (.aload_n 0) 1 :: zEf 27 (.getfield 7) 3 11 1 149 (2, 42, 0) :: zEk 30 (.iconst 4) 1 w30 :: es) σ [vR 11 0, vI x1, vI x2, vI x3, vI x4, vI x5, vI x6] [vI xs1, vR 42 0] = zev cc_X11_turns G 1 krI es σ [vR 11 0, vI x1, vI x2, vI x3, vI x4, vI x5, vI x6] [vI w30, vR 42 0, vI xs1, vR 42 0] := rfl
theorem t_X11_turns_32 {G : Nat → zH → List zAV → List zAV → Option (zH × Int32)} (es : List zEnt) (σ : zH) (x1 : Int32) (x2 : Int32) (x3 : Int32) (x4 : Int32) (x5 : Int32) (x6 : Int32) (xs1 : Int32) (xs2 : Int32)   : zev cc_X11_turns G 1 krI (zE 32 (.iload 5) 2 :: zE 34 .iadd 1 :: es) σ [vR 11 0, vI x1, vI x2, vI x3, vI x4, vI x5, vI x6] [vI xs2, vI xs1, vR 42 0] = zev cc_X11_turns G 1 krI es σ [vR 11 0, vI x1, vI x2, vI x3, vI x4, vI x5, vI x6] [vI (xs2 + x5), vI xs1, vR 42 0] := rfl
theorem t_X11_turns_38 {G : Nat → zH → List zAV → List zAV → Option (zH × Int32)} (es : List zEnt) (σ : zH) (x1 : Int32) (x2 : Int32) (x3 : Int32) (x4 : Int32) (x5 : Int32) (x6 : Int32) (xs1 : Int32)  (w42 : Int32) : zev cc_X11_turns G 1 krI (zE 38 (.aload_n 0) 1 :: zEf 39 (.getfield 7) 3 11 1 149 (2, 42, 0) :: zEk 42 (.bipush 8) 2 w42 :: es) σ [vR 11 0, vI x1, vI x2, vI x3, vI x4, vI x5, vI x6] [vI xs1, vR 42 0] = zev cc_X11_turns G 1 krI es σ [vR 11 0, vI x1, vI x2, vI x3, vI x4, vI x5, vI x6] [vI w42, vR 42 0, vI xs1, vR 42 0] := rfl
theorem t_X11_turns_46 {G : Nat → zH → List zAV → List zAV → Option (zH × Int32)} (es : List zEnt) (σ : zH) (x1 : Int32) (x2 : Int32) (x3 : Int32) (x4 : Int32) (x5 : Int32) (x6 : Int32)   : zev cc_X11_turns G 1 krI (zE 46 (.aload_n 0) 1 :: zE 47 (.iload_n 1) 1 :: es) σ [vR 11 0, vI x1, vI x2, vI x3, vI x4, vI x5, vI x6] [] = zev cc_X11_turns G 1 krI es σ [vR 11 0, vI x1, vI x2, vI x3, vI x4, vI x5, vI x6] [vI x1, vR 11 0] := rfl
theorem t_X11_turns_51 {G : Nat → zH → List zAV → List zAV → Option (zH × Int32)} (es : List zEnt) (σ : zH) (x1 : Int32) (x2 : Int32) (x3 : Int32) (x4 : Int32) (x5 : Int32) (x6 : Int32)  (w51 : Int32) : zev cc_X11_turns G 1 krI (zEk 51 (.iinc 6 1) 3 w51 :: es) σ [vR 11 0, vI x1, vI x2, vI x3, vI x4, vI x5, vI x6] [] = zev cc_X11_turns G 1 krI es σ [vR 11 0, vI x1, vI x2, vI x3, vI x4, vI x5, vI (x6 + w51)] [] := rfl
theorem t_X11_turns_57 {G : Nat → zH → List zAV → List zAV → Option (zH × Int32)} (es : List zEnt) (σ : zH) (x2 : Int32) (y1 : zAV) (y3 : zAV) (y4 : zAV) (y5 : zAV) (y6 : zAV)  : zev cc_X11_turns G 1 krI (zE 57 (.aload_n 0) 1 :: es) σ [vR 11 0, y1, vI x2, y3, y4, y5, y6] [] = zev cc_X11_turns G 1 krI es σ [vR 11 0, y1, vI x2, y3, y4, y5, y6] [vR 11 0] := rfl
theorem t_X11_turns_61 {G : Nat → zH → List zAV → List zAV → Option (zH × Int32)} (es : List zEnt) (σ : zH) (x2 : Int32) (xs0 : Int32) (y1 : zAV) (y3 : zAV) (y4 : zAV) (y5 : zAV) (y6 : zAV) (w61 : Int32) (w66 : Int32) : zev cc_X11_turns G 1 krI (zEk 61 (.iconst 1) 1 w61 :: zE 62 (.aload_n 0) 1 :: zEf 63 (.getfield 7) 3 11 1 149 (2, 42, 0) :: zEk 66 (.iconst 0) 1 w66 :: es) σ [vR 11 0, y1, vI x2, y3, y4, y5, y6] [vI xs0] = zev cc_X11_turns G 1 krI es σ [vR 11 0, y1, vI x2, y3, y4, y5, y6] [vI w66, vR 42 0, vI w61, vI xs0] := rfl
theorem t_X11_turns_68 {G : Nat → zH → List zAV → List zAV → Option (zH × Int32)} (es : List zEnt) (σ : zH) (x2 : Int32) (xs0 : Int32) (xs1 : Int32) (xs2 : Int32) (y1 : zAV) (y3 : zAV) (y4 : zAV) (y5 : zAV) (y6 : zAV) (w69 : Int32) (w72 : Int32) : zev cc_X11_turns G 1 krI (zE 68 .ishl 1 :: zEk 69 (.iconst 1) 1 w69 :: zE 70 .isub 1 :: zE 71 (.iload_n 2) 1 :: zEk 72 (.iconst (-1)) 1 w72 :: zE 73 .ixor 1 :: zE 74 .iand 1 :: es) σ [vR 11 0, y1, vI x2, y3, y4, y5, y6] [vI xs2, vI xs1, vI xs0] = zev cc_X11_turns G 1 krI es σ [vR 11 0, y1, vI x2, y3, y4, y5, y6] [vI (((xs1 <<< (xs2 &&& 31)) - w69) &&& (x2 ^^^ w72)), vI xs0] := rfl
theorem t_X11_turns_78 {G : Nat → zH → List zAV → List zAV → Option (zH × Int32)} (es : List zEnt) (σ : zH)  (y1 : zAV) (y2 : zAV) (y3 : zAV) (y4 : zAV) (y5 : zAV) (y6 : zAV) (w78 : Int32) : zev cc_X11_turns G 1 krI (zEk 78 (.iconst 1) 1 w78 :: es) σ [vR 11 0, y1, y2, y3, y4, y5, y6] [] = zev cc_X11_turns G 1 krI es σ [vR 11 0, y1, y2, y3, y4, y5, y6] [vI w78] := rfl
theorem t_X11_turns_82 {G : Nat → zH → List zAV → List zAV → Option (zH × Int32)} (es : List zEnt) (σ : zH)  (y1 : zAV) (y2 : zAV) (y3 : zAV) (y4 : zAV) (y5 : zAV) (y6 : zAV) (w82 : Int32) : zev cc_X11_turns G 1 krI (zEk 82 (.iconst 0) 1 w82 :: es) σ [vR 11 0, y1, y2, y3, y4, y5, y6] [] = zev cc_X11_turns G 1 krI es σ [vR 11 0, y1, y2, y3, y4, y5, y6] [vI w82] := rfl
theorem t_X11_turns_83 {G : Nat → zH → List zAV → List zAV → Option (zH × Int32)} (es : List zEnt) (σ : zH) (xs0 : Int32) (y1 : zAV) (y2 : zAV) (y3 : zAV) (y4 : zAV) (y5 : zAV) (y6 : zAV) (w90 : Int32) : zev cc_X11_turns G 1 krI (zE 83 (.istore 6) 2 :: zE 85 (.aload_n 0) 1 :: zE 86 (.aload_n 0) 1 :: zEf 87 (.getfield 7) 3 11 1 149 (2, 42, 0) :: zEk 90 (.iconst 5) 1 w90 :: es) σ [vR 11 0, y1, y2, y3, y4, y5, y6] [vI xs0] = zev cc_X11_turns G 1 krI es σ [vR 11 0, y1, y2, y3, y4, (zkp y5), vI xs0] [vI w90, vR 42 0, vR 11 0] := rfl
theorem t_X11_turns_92 {G : Nat → zH → List zAV → List zAV → Option (zH × Int32)} (es : List zEnt) (σ : zH) (x6 : Int32) (xs1 : Int32) (y1 : zAV) (y2 : zAV) (y3 : zAV) (y4 : zAV) (y5 : zAV) (w96 : Int32) : zev cc_X11_turns G 1 krI (zE 92 (.aload_n 0) 1 :: zEf 93 (.getfield 133) 3 11 51 199 (2, 80, 0) :: zEk 96 (.iconst 5) 1 w96 :: es) σ [vR 11 0, y1, y2, y3, y4, y5, vI x6] [vI xs1, vR 11 0] = zev cc_X11_turns G 1 krI es σ [vR 11 0, y1, y2, y3, y4, y5, vI x6] [vI w96, vR 80 0, vI xs1, vR 11 0] := rfl
theorem t_X11_turns_98 {G : Nat → zH → List zAV → List zAV → Option (zH × Int32)} (es : List zEnt) (σ : zH) (x6 : Int32) (xs1 : Int32) (xs2 : Int32) (y1 : zAV) (y2 : zAV) (y3 : zAV) (y4 : zAV) (y5 : zAV)  : zev cc_X11_turns G 1 krI (zE 98 .isub 1 :: es) σ [vR 11 0, y1, y2, y3, y4, y5, vI x6] [vI xs2, vI xs1, vR 11 0] = zev cc_X11_turns G 1 krI es σ [vR 11 0, y1, y2, y3, y4, y5, vI x6] [vI (xs1 - xs2), vR 11 0] := rfl
theorem t_X11_turns_102 {G : Nat → zH → List zAV → List zAV → Option (zH × Int32)} (es : List zEnt) (σ : zH) (x6 : Int32) (y1 : zAV) (y2 : zAV) (y3 : zAV) (y4 : zAV) (y5 : zAV)  : zev cc_X11_turns G 1 krI (zE 102 (.aload_n 0) 1 :: es) σ [vR 11 0, y1, y2, y3, y4, y5, vI x6] [] = zev cc_X11_turns G 1 krI es σ [vR 11 0, y1, y2, y3, y4, y5, vI x6] [vR 11 0] := rfl
theorem t_X11_turns_106 {G : Nat → zH → List zAV → List zAV → Option (zH × Int32)} (es : List zEnt) (σ : zH) (x6 : Int32) (y0 : zAV) (y1 : zAV) (y2 : zAV) (y3 : zAV) (y4 : zAV) (y5 : zAV)  : zev cc_X11_turns G 1 krI (zE 106 (.iload 6) 2 :: es) σ [y0, y1, y2, y3, y4, y5, vI x6] [] = zev cc_X11_turns G 1 krI es σ [y0, y1, y2, y3, y4, y5, vI x6] [vI x6] := rfl
noncomputable def j_X11_turns_45 (c7 : zH → Int32 → Int32 → Int32 → Int32 → Int32 → Int32 → Option (zH × Int32)) (σ : zH) (x1 : Int32) (x2 : Int32) (x3 : Int32) (x4 : Int32) (x5 : Int32) (x6 : Int32) (xs1 : Int32) (xs2 : Int32) : Option (zH × Int32) :=
  ix xs1 11 fun j3 =>
  zlet (uI σ 42 0 j3 xs2) fun σ1 =>
  (d_X11_quarter σ1 x1).bind fun σ2 =>
  c7 σ2 x1 x2 x3 x4 x5 (x6 + (1 : Int32))
theorem e_X11_turns_45 (c7 : zH → Int32 → Int32 → Int32 → Int32 → Int32 → Int32 → Option (zH × Int32)) (σ : zH) (x1 : Int32) (x2 : Int32) (x3 : Int32) (x4 : Int32) (x5 : Int32) (x6 : Int32) (xs1 : Int32) (xs2 : Int32)  : j_X11_turns_45 c7 σ x1 x2 x3 x4 x5 x6 xs1 xs2 = zin cc_X11_turns (fun t => if t = 7 then some (gl_X11_turns_7 c7) else none) 1 krI b_X11_turns 45 σ [vR 11 0, vI x1, vI x2, vI x3, vI x4, vI x5, vI x6] [vI xs2, vI xs1, vR 42 0] := by
  unfold j_X11_turns_45
  refine Eq.symm ((zin_b (es := q_X11_turns_45) rfl).trans ?_)
  refine (x_iast (N := 11) rfl rfl).trans (pix fun _ => plt fun _ => ?_)
  refine (t_X11_turns_46 _ _ _ _ _ _ _ _).trans ?_
  refine (x_callV rfl rfl rfl rfl).trans ((cl_X11_turns_X11_quarter _ _ _).trans ((gr_X11_quarter _ _ _).trans (pbd fun _ => ?_)))
  refine (t_X11_turns_51 _ _ _ _ _ _ _ _ _).trans ?_
  refine x_goto.trans ?_
  exact (zrun_c rfl).trans (glr_X11_turns_7 _ _ _ _ _ _ _ _)
theorem s_X11_turns_45 {X : zX} (hX : zHX X) {c7 : zH → Int32 → Int32 → Int32 → Int32 → Int32 → Int32 → Option (zH × Int32)} (h7 : ∀ σ L st r, gl_X11_turns_7 c7 σ L st = some r → zGW X 192 krI 7 σ L st r) : ∀ σ L st r, gl_X11_turns_45 (j_X11_turns_45 c7) σ L st = some r → zGW X 192 krI 45 σ L st r := by
  intro σ L st r h
  unfold gl_X11_turns_45 at h
  split at h
  · exact zin_ok (hy_X11_turns hX) bk_X11_turns (fun t f hf => by
    by_cases e7 : t = 7
    · rw [if_pos e7] at hf; subst e7; cases hf; exact h7
    rw [if_neg e7] at hf
    cases hf) ((e_X11_turns_45 _ _ _ _ _ _ _ _ _ _).symm.trans h)
  · cases h
noncomputable def k_X11_turns_7 (c57 : zH → Int32 → Option (zH × Int32)) : Nat → zH → Int32 → Int32 → Int32 → Int32 → Int32 → Int32 → Option (zH × Int32)
  | 0, _, _, _, _, _, _, _ => none
  | n + 1, σ, x1, x2, x3, x4, x5, x6 =>
    if x6 < x3 then
      if x6 = x4 then
        (j_X11_turns_45 (k_X11_turns_7 c57 n)) σ x1 x2 x3 x4 x5 x6 (8 : Int32) ((σ.1 42 0 4) + x5)
      else
        (j_X11_turns_45 (k_X11_turns_7 c57 n)) σ x1 x2 x3 x4 x5 x6 (8 : Int32) (σ.1 42 0 8)
    else
      c57 σ x2
theorem e_X11_turns_7 (c57 : zH → Int32 → Option (zH × Int32)) (n : Nat) (σ : zH) (x1 : Int32) (x2 : Int32) (x3 : Int32) (x4 : Int32) (x5 : Int32) (x6 : Int32)  : k_X11_turns_7 c57 (n + 1) σ x1 x2 x3 x4 x5 x6 = zin cc_X11_turns (fun t => if t = 45 then some (gl_X11_turns_45 (j_X11_turns_45 (k_X11_turns_7 c57 n))) else if t = 57 then some (gl_X11_turns_57 c57) else none) 1 krI b_X11_turns 7 σ [vR 11 0, vI x1, vI x2, vI x3, vI x4, vI x5, vI x6] [] := by
  rw [k_X11_turns_7]
  refine Eq.symm ((zin_b (es := q_X11_turns_7) rfl).trans ?_)
  refine (t_X11_turns_7 _ _ _ _ _ _ _ _).trans ?_
  refine x_icmp.trans (pif_ge ?_ ?_)
  · exact (zrun_c rfl).trans (glr_X11_turns_57 _ _ _ _ _ _ _ _)
  · refine (t_X11_turns_13 _ _ _ _ _ _ _ _ _).trans ?_
    refine x_icmp.trans (pif_ne ?_ ?_)
    · refine (zrun_b (es := q_X11_turns_38) rfl rfl).trans ?_
      refine (t_X11_turns_38 _ _ _ _ _ _ _ _ _ _).trans ?_
      refine ((x_iald (N := 11) rfl rfl).trans (ix_l 8 (by decide +kernel))).trans ?_
      refine x_cut.trans ?_
      exact (zrun_c rfl).trans (glr_X11_turns_45 _ _ _ _ _ _ _ _ _ _)
    · refine (t_X11_turns_26 _ _ _ _ _ _ _ _ _ _).trans ?_
      refine ((x_iald (N := 11) rfl rfl).trans (ix_l 4 (by decide +kernel))).trans ?_
      refine (t_X11_turns_32 _ _ _ _ _ _ _ _ _ _).trans ?_
      refine x_goto.trans ?_
      exact (zrun_c rfl).trans (glr_X11_turns_45 _ _ _ _ _ _ _ _ _ _)
theorem s_X11_turns_7 {X : zX} (hX : zHX X) {c57 : zH → Int32 → Option (zH × Int32)} (h57 : ∀ σ L st r, gl_X11_turns_57 c57 σ L st = some r → zGW X 192 krI 57 σ L st r) : ∀ n σ L st r, gl_X11_turns_7 (k_X11_turns_7 c57 n) σ L st = some r → zGW X 192 krI 7 σ L st r := by
  intro n
  induction n with
  | zero =>
    intro σ L st r h
    unfold gl_X11_turns_7 at h
    split at h <;> cases h
  | succ n ih =>
    intro σ L st r h
    unfold gl_X11_turns_7 at h
    split at h
    · exact zin_ok (hy_X11_turns hX) bk_X11_turns (fun t f hf => by
      by_cases e45 : t = 45
      · rw [if_pos e45] at hf; subst e45; cases hf; exact (s_X11_turns_45 hX ih)
      rw [if_neg e45] at hf
      by_cases e57 : t = 57
      · rw [if_pos e57] at hf; subst e57; cases hf; exact h57
      rw [if_neg e57] at hf
      cases hf) ((e_X11_turns_7 _ _ _ _ _ _ _ _ _).symm.trans h)
    · cases h
noncomputable def j_X11_turns_83  (σ : zH) (xs0 : Int32) : Option (zH × Int32) :=
  zlet (uI σ 11 0 60 ((σ.1 42 0 5) - (σ.1 80 0 5))) fun σ1 =>
  (d_X11_laysBack σ1).bind fun σ2 =>
  tv xs0 <| some (σ2, xs0)
theorem e_X11_turns_83  (σ : zH) (xs0 : Int32) (y1 : zAV) (y2 : zAV) (y3 : zAV) (y4 : zAV) (y5 : zAV) (y6 : zAV) : j_X11_turns_83 σ xs0 = zin cc_X11_turns (fun t => none) 1 krI b_X11_turns 83 σ [vR 11 0, y1, y2, y3, y4, y5, y6] [vI xs0] := by
  unfold j_X11_turns_83
  refine Eq.symm ((zin_b (es := q_X11_turns_83) rfl).trans ?_)
  refine (t_X11_turns_83 _ _ _ _ _ _ _ _ _ _).trans ?_
  refine ((x_iald (N := 11) rfl rfl).trans (ix_l 5 (by decide +kernel))).trans ?_
  refine (t_X11_turns_92 _ _ _ _ _ _ _ _ _ _).trans ?_
  refine ((x_iald (N := 11) rfl rfl).trans (ix_l 5 (by decide +kernel))).trans ?_
  refine (t_X11_turns_98 _ _ _ _ _ _ _ _ _ _).trans ?_
  refine x_pf0.trans (plt fun _ => ?_)
  refine (t_X11_turns_102 _ _ _ _ _ _ _ _).trans ?_
  refine (x_callV rfl rfl rfl rfl).trans ((cl_X11_turns_X11_laysBack _ _ _).trans ((gr_X11_laysBack _ _).trans (pbd fun _ => ?_)))
  refine (t_X11_turns_106 _ _ _ _ _ _ _ _ _).trans ?_
  exact x_zret
theorem s_X11_turns_83 {X : zX} (hX : zHX X)   : ∀ σ L st r, gl_X11_turns_83 j_X11_turns_83 σ L st = some r → zGW X 192 krI 83 σ L st r := by
  intro σ L st r h
  unfold gl_X11_turns_83 at h
  split at h
  · exact zin_ok (hy_X11_turns hX) bk_X11_turns (fun t f hf => by
    cases hf) ((e_X11_turns_83 _ _ _ _ _ _ _ _).symm.trans h)
  · cases h
noncomputable def j_X11_turns_57  (σ : zH) (x2 : Int32) : Option (zH × Int32) :=
  (d_X11_upSet σ).bind fun p1 =>
  if p1.2 = ((((1 : Int32) <<< ((p1.1.1 42 0 0) &&& 31)) - (1 : Int32)) &&& (x2 ^^^ (-1 : Int32))) then
    j_X11_turns_83 p1.1 (1 : Int32)
  else
    j_X11_turns_83 p1.1 (0 : Int32)
theorem e_X11_turns_57  (σ : zH) (x2 : Int32) (y1 : zAV) (y3 : zAV) (y4 : zAV) (y5 : zAV) (y6 : zAV) : j_X11_turns_57 σ x2 = zin cc_X11_turns (fun t => if t = 83 then some (gl_X11_turns_83 j_X11_turns_83) else none) 1 krI b_X11_turns 57 σ [vR 11 0, y1, vI x2, y3, y4, y5, y6] [] := by
  unfold j_X11_turns_57
  refine Eq.symm ((zin_b (es := q_X11_turns_57) rfl).trans ?_)
  refine (t_X11_turns_57 _ _ _ _ _ _ _ _).trans ?_
  refine (x_callV rfl rfl rfl rfl).trans ((cl_X11_turns_X11_upSet _ _ _).trans ((gr_X11_upSet _ _).trans (pbd fun _ => ?_)))
  refine (t_X11_turns_61 _ _ _ _ _ _ _ _ _ _ _).trans ?_
  refine ((x_iald (N := 11) rfl rfl).trans (ix_l 0 (by decide +kernel))).trans ?_
  refine (t_X11_turns_68 _ _ _ _ _ _ _ _ _ _ _ _ _).trans ?_
  refine x_icmp.trans (pif_ne ?_ ?_)
  · refine (zrun_b (es := q_X11_turns_82) rfl rfl).trans ?_
    refine (t_X11_turns_82 _ _ _ _ _ _ _ _ _).trans ?_
    refine x_cut.trans ?_
    exact (zrun_c rfl).trans (glr_X11_turns_83 _ _ _ _ _ _ _ _ _)
  · refine (t_X11_turns_78 _ _ _ _ _ _ _ _ _).trans ?_
    refine x_goto.trans ?_
    exact (zrun_c rfl).trans (glr_X11_turns_83 _ _ _ _ _ _ _ _ _)
theorem s_X11_turns_57 {X : zX} (hX : zHX X)   : ∀ σ L st r, gl_X11_turns_57 j_X11_turns_57 σ L st = some r → zGW X 192 krI 57 σ L st r := by
  intro σ L st r h
  unfold gl_X11_turns_57 at h
  split at h
  · exact zin_ok (hy_X11_turns hX) bk_X11_turns (fun t f hf => by
    by_cases e83 : t = 83
    · rw [if_pos e83] at hf; subst e83; cases hf; exact (s_X11_turns_83 hX)
    rw [if_neg e83] at hf
    cases hf) ((e_X11_turns_57 _ _ _ _ _ _ _).symm.trans h)
  · cases h
noncomputable def d_X11_turns (σ : zH) (xa1 : Int32) (xa2 : Int32) (xa3 : Int32) (xa4 : Int32) (xa5 : Int32) : Option (zH × Int32) :=
  (d_X11_keeps σ).bind fun σ1 =>
  (k_X11_turns_7 j_X11_turns_57 zN) σ1 xa1 xa2 xa3 xa4 xa5 (0 : Int32)
theorem e_X11_turns (σ : zH) (xa1 : Int32) (xa2 : Int32) (xa3 : Int32) (xa4 : Int32) (xa5 : Int32) : d_X11_turns σ xa1 xa2 xa3 xa4 xa5 = zin cc_X11_turns (fun t => if t = 7 then some (gl_X11_turns_7 (k_X11_turns_7 j_X11_turns_57 zN)) else none) 1 krI b_X11_turns 0 σ [vR 11 0, vI xa1, vI xa2, vI xa3, vI xa4, vI xa5, vU] [] := by
  unfold d_X11_turns
  refine Eq.symm ((zin_b (es := q_X11_turns_0) rfl).trans ?_)
  refine (t_X11_turns_0 _ _ _ _ _ _ _ _).trans ?_
  refine (x_callV rfl rfl rfl rfl).trans ((cl_X11_turns_X11_keeps _ _ _).trans ((gr_X11_keeps _ _).trans (pbd fun _ => ?_)))
  refine (t_X11_turns_4 _ _ _ _ _ _ _ _ _).trans ?_
  refine x_cut.trans ?_
  exact (zrun_c rfl).trans (glr_X11_turns_7 _ _ _ _ _ _ _ _)
noncomputable def g_X11_turns {ρ : Type} (σ : zH) (av : List zAV) (q : zH → zAV → Option ρ) : Option ρ := match av with
  | [.inr (.inr (.inl (11, 0))), .inl xa1, .inl xa2, .inl xa3, .inl xa4, .inl xa5] => (d_X11_turns σ xa1 xa2 xa3 xa4 xa5).bind fun p => q p.1 (vI p.2)
  | _ => none
theorem gr_X11_turns {ρ : Type} (σ : zH) (xa1 : Int32) (xa2 : Int32) (xa3 : Int32) (xa4 : Int32) (xa5 : Int32) (q : zH → zAV → Option ρ) : g_X11_turns σ [vR 11 0, vI xa1, vI xa2, vI xa3, vI xa4, vI xa5] q = (d_X11_turns σ xa1 xa2 xa3 xa4 xa5).bind fun p => q p.1 (vI p.2) := rfl
theorem c_X11_turns {ρ : Type} {X : zX} (hX : zHX X) {σ : zH} {av : List zAV} {q : zH → zAV → Option ρ} {r : ρ} (h : g_X11_turns σ av q = some r) (hv : ∀ a ∈ av, zval X a) : zcon X 192 σ av q r := by
  unfold g_X11_turns at h
  split at h
  · exact zcon_I (n := 192) (ml := 7) (rc := 1) (st := 0) (kd := 11) (np := 5) (by decide +kernel) (by decide) ⟨_, _, rfl, rfl⟩ (Nat.le_of_ble_eq_true rfl) hv h (fun y h1 => (zin_ok (hy_X11_turns hX) bk_X11_turns (fun t f hf => by
      by_cases e7 : t = 7
      · rw [if_pos e7] at hf; subst e7; cases hf; exact ((fun σ L st r h => s_X11_turns_7 hX (s_X11_turns_57 hX) zN σ L st r h))
      rw [if_neg e7] at hf
      cases hf) ((e_X11_turns _ _ _ _ _ _).symm.trans h1)))
  · cases h
/-! SleepWavesModel.turned(IIII)I -/
def q_X11_turned_54 : List zEnt := zE 54 .ireturn 1 :: []
def q_X11_turned_53 : List zEnt := zEk 53 (.iconst (-1)) 1 (-1) :: q_X11_turned_54
def q_X11_turned_50 : List zEnt := zEa 50 (.ifCond .ne 5) 3 55 :: q_X11_turned_53
def q_X11_turned_47 : List zEnt := zEc 47 (.invokestatic 173) 3 125 3 129 0 :: q_X11_turned_50
def q_X11_turned_40 : List zEnt := zE 40 (.iload 4) 2 :: zE 42 .i2l 1 :: (43, (.lconst 0), 1, (0, 0, 0, 0), (0, 0, 0), 0, 0, []) :: (44, (.ldc2_w 451), 3, (0, 0, 1626, 0), (0, 0, 0), 0, 2, []) :: q_X11_turned_47
def q_X11_turned_37 : List zEnt := zEa 37 (.ifCond .eq 16) 3 53 :: q_X11_turned_40
def q_X11_turned_34 : List zEnt := zEc 34 (.invokestatic 173) 3 125 3 129 0 :: q_X11_turned_37
def q_X11_turned_28 : List zEnt := zE 28 (.iload_n 3) 1 :: zE 29 .i2l 1 :: (30, (.lconst 1), 1, (0, 0, 0, 0), (0, 0, 0), 0, 1, []) :: (31, (.ldc2_w 421), 3, (0, 0, 1488, 0), (0, 0, 0), 0, 96, []) :: q_X11_turned_34
def q_X11_turned_25 : List zEnt := zEa 25 (.ifCond .eq 28) 3 53 :: q_X11_turned_28
def q_X11_turned_22 : List zEnt := zEc 22 (.invokestatic 173) 3 125 3 129 0 :: q_X11_turned_25
def q_X11_turned_18 : List zEnt := zE 18 .ishl 1 :: zEk 19 (.iconst 1) 1 1 :: zE 20 .isub 1 :: zE 21 .i2l 1 :: q_X11_turned_22
def q_X11_turned_17 : List zEnt := zE 17 .iaload 1 :: q_X11_turned_18
def q_X11_turned_8 : List zEnt := zE 8 (.iload_n 2) 1 :: zE 9 .i2l 1 :: (10, (.lconst 0), 1, (0, 0, 0, 0), (0, 0, 0), 0, 0, []) :: zEk 11 (.iconst 1) 1 1 :: zE 12 (.aload_n 0) 1 :: zEf 13 (.getfield 7) 3 11 1 149 (2, 42, 0) :: zEk 16 (.iconst 0) 1 0 :: q_X11_turned_17
def q_X11_turned_5 : List zEnt := zEa 5 (.ifCond .eq 48) 3 53 :: q_X11_turned_8
def q_X11_turned_2 : List zEnt := zEc 2 (.invokevirtual 418) 3 164 2 145 0 :: q_X11_turned_5
def q_X11_turned_0 : List zEnt := zE 0 (.aload_n 0) 1 :: zE 1 (.iload_n 1) 1 :: q_X11_turned_2
def q_X11_turned_55 : List zEnt := zEk 55 (.iconst 1) 1 1 :: zE 56 (.istore 5) 2 :: [zE 58 .nop 0]
def q_X11_turned_65 : List zEnt := zEk 65 (.iconst 0) 1 0 :: zE 66 (.istore 6) 2 :: [zE 68 .nop 0]
def q_X11_turned_62 : List zEnt := zEa 62 (.if_icmp .gt 65) 3 127 :: q_X11_turned_65
def q_X11_turned_58 : List zEnt := zE 58 (.iload 5) 2 :: zEk 60 (.bipush 16) 2 16 :: q_X11_turned_62
def q_X11_turned_86 : List zEnt := zEa 86 (.ifCond .eq 29) 3 115 :: [zE 89 .nop 0]
def q_X11_turned_83 : List zEnt := zEc 83 (.invokevirtual 453) 3 192 6 172 0 :: q_X11_turned_86
def q_X11_turned_75 : List zEnt := zE 75 (.aload_n 0) 1 :: zE 76 (.iload_n 1) 1 :: zE 77 (.iload_n 2) 1 :: zE 78 (.iload_n 3) 1 :: zE 79 (.iload 6) 2 :: zE 81 (.iload 5) 2 :: q_X11_turned_83
def q_X11_turned_72 : List zEnt := zEa 72 (.if_icmp .ge 49) 3 121 :: q_X11_turned_75
def q_X11_turned_68 : List zEnt := zE 68 (.iload 6) 2 :: zEk 70 (.bipush 48) 2 48 :: q_X11_turned_72
def q_X11_turned_96 : List zEnt := zEa 96 (.goto 18) 3 114 :: []
def q_X11_turned_94 : List zEnt := zE 94 (.iload 6) 2 :: q_X11_turned_96
def q_X11_turned_91 : List zEnt := zEa 91 (.ifCond .ne 8) 3 99 :: q_X11_turned_94
def q_X11_turned_89 : List zEnt := zE 89 (.iload 4) 2 :: q_X11_turned_91
def q_X11_turned_107 : List zEnt := zEa 107 (.goto 7) 3 114 :: []
def q_X11_turned_105 : List zEnt := zE 105 (.iload 5) 2 :: q_X11_turned_107
def q_X11_turned_102 : List zEnt := zEa 102 (.if_icmp .ne 8) 3 110 :: q_X11_turned_105
def q_X11_turned_99 : List zEnt := zE 99 (.iload 4) 2 :: zEk 101 (.iconst 1) 1 1 :: q_X11_turned_102
def q_X11_turned_114 : List zEnt := zE 114 .ireturn 1 :: []
def q_X11_turned_110 : List zEnt := zE 110 (.aload_n 0) 1 :: zEf 111 (.getfield 448) 3 11 60 208 (0, 0, 0) :: q_X11_turned_114
def q_X11_turned_118 : List zEnt := zEa 118 (.goto (-50)) 3 68 :: []
def q_X11_turned_115 : List zEnt := zEk 115 (.iinc 6 1) 3 1 :: q_X11_turned_118
def q_X11_turned_124 : List zEnt := zEa 124 (.goto (-66)) 3 58 :: []
def q_X11_turned_121 : List zEnt := zEk 121 (.iinc 5 1) 3 1 :: q_X11_turned_124
def q_X11_turned_129 : List zEnt := zE 129 .ireturn 1 :: []
def q_X11_turned_127 : List zEnt := zEk 127 (.bipush (-2)) 2 (-2) :: q_X11_turned_129
def b_X11_turned : List (Nat × List zEnt) := [(0, q_X11_turned_0), (53, q_X11_turned_53), (55, q_X11_turned_55), (58, q_X11_turned_58), (68, q_X11_turned_68), (89, q_X11_turned_89), (99, q_X11_turned_99), (110, q_X11_turned_110), (114, q_X11_turned_114), (115, q_X11_turned_115), (121, q_X11_turned_121), (127, q_X11_turned_127)]
theorem bk_X11_turned : zchB 193 b_X11_turned = true := by decide +kernel
noncomputable def cc_X11_turned {ρ : Type} : Nat → zH → List zAV → (zH → zAV → Option ρ) → Option ρ := fun n σ av q => if n = 164 then g_X11_isLaw σ av q else if n = 125 then g_X11_in σ av q else if n = 192 then g_X11_turns σ av q else none
theorem cs_X11_turned {ρ : Type} {X : zX} (hX : zHX X) : zCS X (cc_X11_turned (ρ := ρ)) := by
  intro n σ av q r h hv
  unfold cc_X11_turned at h
  by_cases e_X11_isLaw : n = 164
  · rw [if_pos e_X11_isLaw] at h
    subst e_X11_isLaw
    exact c_X11_isLaw hX h hv
  rw [if_neg e_X11_isLaw] at h
  by_cases e_X11_in : n = 125
  · rw [if_pos e_X11_in] at h
    subst e_X11_in
    exact c_X11_in hX h hv
  rw [if_neg e_X11_in] at h
  by_cases e_X11_turns : n = 192
  · rw [if_pos e_X11_turns] at h
    subst e_X11_turns
    exact c_X11_turns hX h hv
  rw [if_neg e_X11_turns] at h
  cases h
theorem cl_X11_turned_X11_isLaw {ρ : Type} (σ : zH) (av : List zAV) (q : zH → zAV → Option ρ) : cc_X11_turned 164 σ av q = g_X11_isLaw σ av q := rfl
theorem cl_X11_turned_X11_in {ρ : Type} (σ : zH) (av : List zAV) (q : zH → zAV → Option ρ) : cc_X11_turned 125 σ av q = g_X11_in σ av q := rfl
theorem cl_X11_turned_X11_turns {ρ : Type} (σ : zH) (av : List zAV) (q : zH → zAV → Option ρ) : cc_X11_turned 192 σ av q = g_X11_turns σ av q := rfl
theorem hy_X11_turned {ρ : Type} {X : zX} (hX : zHX X) : zHY X 193 (cc_X11_turned (ρ := ρ)) := zHX.hY hX (cs_X11_turned hX) (zmok_all 193 (by decide))
def gl_X11_turned_58 {ρ : Type} (f : zH → Int32 → Int32 → Int32 → Int32 → Int32 → Option ρ) (σ : zH) (L st : List zAV) : Option ρ := match L, st with
  | [.inr (.inr (.inl (11, 0))), .inl x1, .inl x2, .inl x3, .inl x4, .inl x5, _], [] => f σ x1 x2 x3 x4 x5
  | _, _ => none
def gl_X11_turned_68 {ρ : Type} (f : zH → Int32 → Int32 → Int32 → Int32 → Int32 → Int32 → Option ρ) (σ : zH) (L st : List zAV) : Option ρ := match L, st with
  | [.inr (.inr (.inl (11, 0))), .inl x1, .inl x2, .inl x3, .inl x4, .inl x5, .inl x6], [] => f σ x1 x2 x3 x4 x5 x6
  | _, _ => none
def gl_X11_turned_89 {ρ : Type} (f : zH → Int32 → Int32 → Int32 → Option ρ) (σ : zH) (L st : List zAV) : Option ρ := match L, st with
  | [.inr (.inr (.inl (11, 0))), _, _, _, .inl x4, .inl x5, .inl x6], [] => f σ x4 x5 x6
  | _, _ => none
def gl_X11_turned_121 {ρ : Type} (f : zH → Int32 → Int32 → Int32 → Int32 → Int32 → Option ρ) (σ : zH) (L st : List zAV) : Option ρ := match L, st with
  | [.inr (.inr (.inl (11, 0))), .inl x1, .inl x2, .inl x3, .inl x4, .inl x5, _], [] => f σ x1 x2 x3 x4 x5
  | _, _ => none
theorem glr_X11_turned_58 {ρ : Type} (f : zH → Int32 → Int32 → Int32 → Int32 → Int32 → Option ρ) (σ : zH) (x1 : Int32) (x2 : Int32) (x3 : Int32) (x4 : Int32) (x5 : Int32) (y6 : zAV) : gl_X11_turned_58 f σ [vR 11 0, vI x1, vI x2, vI x3, vI x4, vI x5, y6] [] = f σ x1 x2 x3 x4 x5 := rfl
theorem glr_X11_turned_68 {ρ : Type} (f : zH → Int32 → Int32 → Int32 → Int32 → Int32 → Int32 → Option ρ) (σ : zH) (x1 : Int32) (x2 : Int32) (x3 : Int32) (x4 : Int32) (x5 : Int32) (x6 : Int32)  : gl_X11_turned_68 f σ [vR 11 0, vI x1, vI x2, vI x3, vI x4, vI x5, vI x6] [] = f σ x1 x2 x3 x4 x5 x6 := rfl
theorem glr_X11_turned_89 {ρ : Type} (f : zH → Int32 → Int32 → Int32 → Option ρ) (σ : zH) (x4 : Int32) (x5 : Int32) (x6 : Int32) (y1 : zAV) (y2 : zAV) (y3 : zAV) : gl_X11_turned_89 f σ [vR 11 0, y1, y2, y3, vI x4, vI x5, vI x6] [] = f σ x4 x5 x6 := rfl
theorem glr_X11_turned_121 {ρ : Type} (f : zH → Int32 → Int32 → Int32 → Int32 → Int32 → Option ρ) (σ : zH) (x1 : Int32) (x2 : Int32) (x3 : Int32) (x4 : Int32) (x5 : Int32) (y6 : zAV) : gl_X11_turned_121 f σ [vR 11 0, vI x1, vI x2, vI x3, vI x4, vI x5, y6] [] = f σ x1 x2 x3 x4 x5 := rfl
theorem t_X11_turned_0 {G : Nat → zH → List zAV → List zAV → Option (zH × Int32)} (es : List zEnt) (σ : zH) (x1 : Int32) (x2 : Int32) (x3 : Int32) (x4 : Int32) (y5 : zAV) (y6 : zAV)  : zev cc_X11_turned G 0 krI (zE 0 (.aload_n 0) 1 :: zE 1 (.iload_n 1) 1 :: es) σ [vR 11 0, vI x1, vI x2, vI x3, vI x4, y5, y6] [] = zev cc_X11_turned G 0 krI es σ [vR 11 0, vI x1, vI x2, vI x3, vI x4, y5, y6] [vI x1, vR 11 0] := rfl
theorem t_X11_turned_8 {G : Nat → zH → List zAV → List zAV → Option (zH × Int32)} (es : List zEnt) (σ : zH) (x1 : Int32) (x2 : Int32) (x3 : Int32) (x4 : Int32) (y5 : zAV) (y6 : zAV) (w10 : Int64) (w11 : Int32) (w16 : Int32) : zev cc_X11_turned G 0 krI (zE 8 (.iload_n 2) 1 :: zE 9 .i2l 1 :: (10, (.lconst 0), 1, (0, 0, 0, 0), (0, 0, 0), 0, w10, []) :: zEk 11 (.iconst 1) 1 w11 :: zE 12 (.aload_n 0) 1 :: zEf 13 (.getfield 7) 3 11 1 149 (2, 42, 0) :: zEk 16 (.iconst 0) 1 w16 :: es) σ [vR 11 0, vI x1, vI x2, vI x3, vI x4, y5, y6] [] = zev cc_X11_turned G 0 krI es σ [vR 11 0, vI x1, vI x2, vI x3, vI x4, y5, y6] [vI w16, vR 42 0, vI w11, vL w10, vL x2.toInt64] := rfl
theorem t_X11_turned_18 {G : Nat → zH → List zAV → List zAV → Option (zH × Int32)} (es : List zEnt) (σ : zH) (x1 : Int32) (x2 : Int32) (x3 : Int32) (x4 : Int32) (zs0 : Int64) (zs1 : Int64) (xs2 : Int32) (xs3 : Int32) (y5 : zAV) (y6 : zAV) (w19 : Int32) : zev cc_X11_turned G 0 krI (zE 18 .ishl 1 :: zEk 19 (.iconst 1) 1 w19 :: zE 20 .isub 1 :: zE 21 .i2l 1 :: es) σ [vR 11 0, vI x1, vI x2, vI x3, vI x4, y5, y6] [vI xs3, vI xs2, vL zs1, vL zs0] = zev cc_X11_turned G 0 krI es σ [vR 11 0, vI x1, vI x2, vI x3, vI x4, y5, y6] [vL ((xs2 <<< (xs3 &&& 31)) - w19).toInt64, vL zs1, vL zs0] := rfl
theorem t_X11_turned_28 {G : Nat → zH → List zAV → List zAV → Option (zH × Int32)} (es : List zEnt) (σ : zH) (x1 : Int32) (x2 : Int32) (x3 : Int32) (x4 : Int32) (y5 : zAV) (y6 : zAV) (w30 : Int64) (w31 : Int64) : zev cc_X11_turned G 0 krI (zE 28 (.iload_n 3) 1 :: zE 29 .i2l 1 :: (30, (.lconst 1), 1, (0, 0, 0, 0), (0, 0, 0), 0, w30, []) :: (31, (.ldc2_w 421), 3, (0, 0, 1488, 0), (0, 0, 0), 0, w31, []) :: es) σ [vR 11 0, vI x1, vI x2, vI x3, vI x4, y5, y6] [] = zev cc_X11_turned G 0 krI es σ [vR 11 0, vI x1, vI x2, vI x3, vI x4, y5, y6] [vL w31, vL w30, vL x3.toInt64] := rfl
theorem t_X11_turned_40 {G : Nat → zH → List zAV → List zAV → Option (zH × Int32)} (es : List zEnt) (σ : zH) (x1 : Int32) (x2 : Int32) (x3 : Int32) (x4 : Int32) (y5 : zAV) (y6 : zAV) (w43 : Int64) (w44 : Int64) : zev cc_X11_turned G 0 krI (zE 40 (.iload 4) 2 :: zE 42 .i2l 1 :: (43, (.lconst 0), 1, (0, 0, 0, 0), (0, 0, 0), 0, w43, []) :: (44, (.ldc2_w 451), 3, (0, 0, 1626, 0), (0, 0, 0), 0, w44, []) :: es) σ [vR 11 0, vI x1, vI x2, vI x3, vI x4, y5, y6] [] = zev cc_X11_turned G 0 krI es σ [vR 11 0, vI x1, vI x2, vI x3, vI x4, y5, y6] [vL w44, vL w43, vL x4.toInt64] := rfl
theorem t_X11_turned_53 {G : Nat → zH → List zAV → List zAV → Option (zH × Int32)} (es : List zEnt) (σ : zH)  (y0 : zAV) (y1 : zAV) (y2 : zAV) (y3 : zAV) (y4 : zAV) (y5 : zAV) (y6 : zAV) (w53 : Int32) : zev cc_X11_turned G 0 krI (zEk 53 (.iconst (-1)) 1 w53 :: es) σ [y0, y1, y2, y3, y4, y5, y6] [] = zev cc_X11_turned G 0 krI es σ [y0, y1, y2, y3, y4, y5, y6] [vI w53] := rfl
theorem t_X11_turned_55 {G : Nat → zH → List zAV → List zAV → Option (zH × Int32)} (es : List zEnt) (σ : zH) (x1 : Int32) (x2 : Int32) (x3 : Int32) (x4 : Int32) (y5 : zAV) (y6 : zAV) (w55 : Int32) : zev cc_X11_turned G 0 krI (zEk 55 (.iconst 1) 1 w55 :: zE 56 (.istore 5) 2 :: es) σ [vR 11 0, vI x1, vI x2, vI x3, vI x4, y5, y6] [] = zev cc_X11_turned G 0 krI es σ [vR 11 0, vI x1, vI x2, vI x3, vI x4, vI w55, y6] [] := rfl
theorem t_X11_turned_58 {G : Nat → zH → List zAV → List zAV → Option (zH × Int32)} (es : List zEnt) (σ : zH) (x1 : Int32) (x2 : Int32) (x3 : Int32) (x4 : Int32) (x5 : Int32) (y6 : zAV) (w60 : Int32) : zev cc_X11_turned G 0 krI (zE 58 (.iload 5) 2 :: zEk 60 (.bipush 16) 2 w60 :: es) σ [vR 11 0, vI x1, vI x2, vI x3, vI x4, vI x5, y6] [] = zev cc_X11_turned G 0 krI es σ [vR 11 0, vI x1, vI x2, vI x3, vI x4, vI x5, y6] [vI w60, vI x5] := rfl
theorem t_X11_turned_65 {G : Nat → zH → List zAV → List zAV → Option (zH × Int32)} (es : List zEnt) (σ : zH) (x1 : Int32) (x2 : Int32) (x3 : Int32) (x4 : Int32) (x5 : Int32) (y6 : zAV) (w65 : Int32) : zev cc_X11_turned G 0 krI (zEk 65 (.iconst 0) 1 w65 :: zE 66 (.istore 6) 2 :: es) σ [vR 11 0, vI x1, vI x2, vI x3, vI x4, vI x5, y6] [] = zev cc_X11_turned G 0 krI es σ [vR 11 0, vI x1, vI x2, vI x3, vI x4, vI x5, vI w65] [] := rfl
theorem t_X11_turned_68 {G : Nat → zH → List zAV → List zAV → Option (zH × Int32)} (es : List zEnt) (σ : zH) (x1 : Int32) (x2 : Int32) (x3 : Int32) (x4 : Int32) (x5 : Int32) (x6 : Int32)  (w70 : Int32) : zev cc_X11_turned G 0 krI (zE 68 (.iload 6) 2 :: zEk 70 (.bipush 48) 2 w70 :: es) σ [vR 11 0, vI x1, vI x2, vI x3, vI x4, vI x5, vI x6] [] = zev cc_X11_turned G 0 krI es σ [vR 11 0, vI x1, vI x2, vI x3, vI x4, vI x5, vI x6] [vI w70, vI x6] := rfl
theorem t_X11_turned_75 {G : Nat → zH → List zAV → List zAV → Option (zH × Int32)} (es : List zEnt) (σ : zH) (x1 : Int32) (x2 : Int32) (x3 : Int32) (x4 : Int32) (x5 : Int32) (x6 : Int32)   : zev cc_X11_turned G 0 krI (zE 75 (.aload_n 0) 1 :: zE 76 (.iload_n 1) 1 :: zE 77 (.iload_n 2) 1 :: zE 78 (.iload_n 3) 1 :: zE 79 (.iload 6) 2 :: zE 81 (.iload 5) 2 :: es) σ [vR 11 0, vI x1, vI x2, vI x3, vI x4, vI x5, vI x6] [] = zev cc_X11_turned G 0 krI es σ [vR 11 0, vI x1, vI x2, vI x3, vI x4, vI x5, vI x6] [vI x5, vI x6, vI x3, vI x2, vI x1, vR 11 0] := rfl
theorem t_X11_turned_89 {G : Nat → zH → List zAV → List zAV → Option (zH × Int32)} (es : List zEnt) (σ : zH) (x4 : Int32) (x5 : Int32) (x6 : Int32) (y1 : zAV) (y2 : zAV) (y3 : zAV)  : zev cc_X11_turned G 0 krI (zE 89 (.iload 4) 2 :: es) σ [vR 11 0, y1, y2, y3, vI x4, vI x5, vI x6] [] = zev cc_X11_turned G 0 krI es σ [vR 11 0, y1, y2, y3, vI x4, vI x5, vI x6] [vI x4] := rfl
theorem t_X11_turned_94 {G : Nat → zH → List zAV → List zAV → Option (zH × Int32)} (es : List zEnt) (σ : zH) (x6 : Int32) (y0 : zAV) (y1 : zAV) (y2 : zAV) (y3 : zAV) (y4 : zAV) (y5 : zAV)  : zev cc_X11_turned G 0 krI (zE 94 (.iload 6) 2 :: es) σ [y0, y1, y2, y3, y4, y5, vI x6] [] = zev cc_X11_turned G 0 krI es σ [y0, y1, y2, y3, y4, y5, vI x6] [vI x6] := rfl
theorem t_X11_turned_99 {G : Nat → zH → List zAV → List zAV → Option (zH × Int32)} (es : List zEnt) (σ : zH) (x4 : Int32) (x5 : Int32) (y1 : zAV) (y2 : zAV) (y3 : zAV) (y6 : zAV) (w101 : Int32) : zev cc_X11_turned G 0 krI (zE 99 (.iload 4) 2 :: zEk 101 (.iconst 1) 1 w101 :: es) σ [vR 11 0, y1, y2, y3, vI x4, vI x5, y6] [] = zev cc_X11_turned G 0 krI es σ [vR 11 0, y1, y2, y3, vI x4, vI x5, y6] [vI w101, vI x4] := rfl
theorem t_X11_turned_105 {G : Nat → zH → List zAV → List zAV → Option (zH × Int32)} (es : List zEnt) (σ : zH) (x5 : Int32) (y0 : zAV) (y1 : zAV) (y2 : zAV) (y3 : zAV) (y4 : zAV) (y6 : zAV)  : zev cc_X11_turned G 0 krI (zE 105 (.iload 5) 2 :: es) σ [y0, y1, y2, y3, y4, vI x5, y6] [] = zev cc_X11_turned G 0 krI es σ [y0, y1, y2, y3, y4, vI x5, y6] [vI x5] := rfl
theorem t_X11_turned_110 {G : Nat → zH → List zAV → List zAV → Option (zH × Int32)} (es : List zEnt) (σ : zH)  (y1 : zAV) (y2 : zAV) (y3 : zAV) (y4 : zAV) (y5 : zAV) (y6 : zAV)  : zev cc_X11_turned G 0 krI (zE 110 (.aload_n 0) 1 :: zEf 111 (.getfield 448) 3 11 60 208 (0, 0, 0) :: es) σ [vR 11 0, y1, y2, y3, y4, y5, y6] [] = zev cc_X11_turned G 0 krI es σ [vR 11 0, y1, y2, y3, y4, y5, y6] [vI (σ.1 11 0 60)] := rfl
theorem t_X11_turned_115 {G : Nat → zH → List zAV → List zAV → Option (zH × Int32)} (es : List zEnt) (σ : zH) (x1 : Int32) (x2 : Int32) (x3 : Int32) (x4 : Int32) (x5 : Int32) (x6 : Int32)  (w115 : Int32) : zev cc_X11_turned G 0 krI (zEk 115 (.iinc 6 1) 3 w115 :: es) σ [vR 11 0, vI x1, vI x2, vI x3, vI x4, vI x5, vI x6] [] = zev cc_X11_turned G 0 krI es σ [vR 11 0, vI x1, vI x2, vI x3, vI x4, vI x5, vI (x6 + w115)] [] := rfl
theorem t_X11_turned_121 {G : Nat → zH → List zAV → List zAV → Option (zH × Int32)} (es : List zEnt) (σ : zH) (x1 : Int32) (x2 : Int32) (x3 : Int32) (x4 : Int32) (x5 : Int32) (y6 : zAV) (w121 : Int32) : zev cc_X11_turned G 0 krI (zEk 121 (.iinc 5 1) 3 w121 :: es) σ [vR 11 0, vI x1, vI x2, vI x3, vI x4, vI x5, y6] [] = zev cc_X11_turned G 0 krI es σ [vR 11 0, vI x1, vI x2, vI x3, vI x4, vI (x5 + w121), y6] [] := rfl
theorem t_X11_turned_127 {G : Nat → zH → List zAV → List zAV → Option (zH × Int32)} (es : List zEnt) (σ : zH)  (y0 : zAV) (y1 : zAV) (y2 : zAV) (y3 : zAV) (y4 : zAV) (y5 : zAV) (y6 : zAV) (w127 : Int32) : zev cc_X11_turned G 0 krI (zEk 127 (.bipush (-2)) 2 w127 :: es) σ [y0, y1, y2, y3, y4, y5, y6] [] = zev cc_X11_turned G 0 krI es σ [y0, y1, y2, y3, y4, y5, y6] [vI w127] := rfl
noncomputable def k_X11_turned_68 (c89 : zH → Int32 → Int32 → Int32 → Option (zH × Int32)) (c121 : zH → Int32 → Int32 → Int32 → Int32 → Int32 → Option (zH × Int32)) : Nat → zH → Int32 → Int32 → Int32 → Int32 → Int32 → Int32 → Option (zH × Int32)
  | 0, _, _, _, _, _, _, _ => none
  | n + 1, σ, x1, x2, x3, x4, x5, x6 =>
    if x6 < (48 : Int32) then
      (d_X11_turns σ x1 x2 x3 x6 x5).bind fun p1 =>
      if p1.2 = 0 then
        (k_X11_turned_68 c89 c121 n) p1.1 x1 x2 x3 x4 x5 (x6 + (1 : Int32))
      else
        c89 p1.1 x4 x5 x6
    else
      c121 σ x1 x2 x3 x4 x5
theorem e_X11_turned_68 (c89 : zH → Int32 → Int32 → Int32 → Option (zH × Int32)) (c121 : zH → Int32 → Int32 → Int32 → Int32 → Int32 → Option (zH × Int32)) (n : Nat) (σ : zH) (x1 : Int32) (x2 : Int32) (x3 : Int32) (x4 : Int32) (x5 : Int32) (x6 : Int32)  : k_X11_turned_68 c89 c121 (n + 1) σ x1 x2 x3 x4 x5 x6 = zin cc_X11_turned (fun t => if t = 68 then some (gl_X11_turned_68 (k_X11_turned_68 c89 c121 n)) else if t = 89 then some (gl_X11_turned_89 c89) else if t = 121 then some (gl_X11_turned_121 c121) else none) 0 krI b_X11_turned 68 σ [vR 11 0, vI x1, vI x2, vI x3, vI x4, vI x5, vI x6] [] := by
  rw [k_X11_turned_68]
  refine Eq.symm ((zin_b (es := q_X11_turned_68) rfl).trans ?_)
  refine (t_X11_turned_68 _ _ _ _ _ _ _ _ _).trans ?_
  refine x_icmp.trans (pif_ge ?_ ?_)
  · exact (zrun_c rfl).trans (glr_X11_turned_121 _ _ _ _ _ _ _ _)
  · refine (t_X11_turned_75 _ _ _ _ _ _ _ _).trans ?_
    refine (x_callV rfl rfl rfl rfl).trans ((cl_X11_turned_X11_turns _ _ _).trans ((gr_X11_turns _ _ _ _ _ _ _).trans (pbd fun _ => ?_)))
    refine x_if.trans (pif_eq ?_ ?_)
    · refine (zrun_b (es := q_X11_turned_115) rfl rfl).trans ?_
      refine (t_X11_turned_115 _ _ _ _ _ _ _ _ _).trans ?_
      refine x_goto.trans ?_
      exact (zrun_c rfl).trans (glr_X11_turned_68 _ _ _ _ _ _ _ _)
    · refine x_cut.trans ?_
      exact (zrun_c rfl).trans (glr_X11_turned_89 _ _ _ _ _ _ _ _)
theorem s_X11_turned_68 {X : zX} (hX : zHX X) {c89 : zH → Int32 → Int32 → Int32 → Option (zH × Int32)} {c121 : zH → Int32 → Int32 → Int32 → Int32 → Int32 → Option (zH × Int32)} (h89 : ∀ σ L st r, gl_X11_turned_89 c89 σ L st = some r → zGW X 193 krI 89 σ L st r) (h121 : ∀ σ L st r, gl_X11_turned_121 c121 σ L st = some r → zGW X 193 krI 121 σ L st r) : ∀ n σ L st r, gl_X11_turned_68 (k_X11_turned_68 c89 c121 n) σ L st = some r → zGW X 193 krI 68 σ L st r := by
  intro n
  induction n with
  | zero =>
    intro σ L st r h
    unfold gl_X11_turned_68 at h
    split at h <;> cases h
  | succ n ih =>
    intro σ L st r h
    unfold gl_X11_turned_68 at h
    split at h
    · exact zin_ok (hy_X11_turned hX) bk_X11_turned (fun t f hf => by
      by_cases e68 : t = 68
      · rw [if_pos e68] at hf; subst e68; cases hf; exact ih
      rw [if_neg e68] at hf
      by_cases e89 : t = 89
      · rw [if_pos e89] at hf; subst e89; cases hf; exact h89
      rw [if_neg e89] at hf
      by_cases e121 : t = 121
      · rw [if_pos e121] at hf; subst e121; cases hf; exact h121
      rw [if_neg e121] at hf
      cases hf) ((e_X11_turned_68 _ _ _ _ _ _ _ _ _ _).symm.trans h)
    · cases h
noncomputable def j_X11_turned_121 (c58 : zH → Int32 → Int32 → Int32 → Int32 → Int32 → Option (zH × Int32)) (σ : zH) (x1 : Int32) (x2 : Int32) (x3 : Int32) (x4 : Int32) (x5 : Int32) : Option (zH × Int32) :=
  c58 σ x1 x2 x3 x4 (x5 + (1 : Int32))
theorem e_X11_turned_121 (c58 : zH → Int32 → Int32 → Int32 → Int32 → Int32 → Option (zH × Int32)) (σ : zH) (x1 : Int32) (x2 : Int32) (x3 : Int32) (x4 : Int32) (x5 : Int32) (y6 : zAV) : j_X11_turned_121 c58 σ x1 x2 x3 x4 x5 = zin cc_X11_turned (fun t => if t = 58 then some (gl_X11_turned_58 c58) else none) 0 krI b_X11_turned 121 σ [vR 11 0, vI x1, vI x2, vI x3, vI x4, vI x5, y6] [] := by
  unfold j_X11_turned_121
  refine Eq.symm ((zin_b (es := q_X11_turned_121) rfl).trans ?_)
  refine (t_X11_turned_121 _ _ _ _ _ _ _ _ _).trans ?_
  refine x_goto.trans ?_
  exact (zrun_c rfl).trans (glr_X11_turned_58 _ _ _ _ _ _ _ _)
theorem s_X11_turned_121 {X : zX} (hX : zHX X) {c58 : zH → Int32 → Int32 → Int32 → Int32 → Int32 → Option (zH × Int32)} (h58 : ∀ σ L st r, gl_X11_turned_58 c58 σ L st = some r → zGW X 193 krI 58 σ L st r) : ∀ σ L st r, gl_X11_turned_121 (j_X11_turned_121 c58) σ L st = some r → zGW X 193 krI 121 σ L st r := by
  intro σ L st r h
  unfold gl_X11_turned_121 at h
  split at h
  · exact zin_ok (hy_X11_turned hX) bk_X11_turned (fun t f hf => by
    by_cases e58 : t = 58
    · rw [if_pos e58] at hf; subst e58; cases hf; exact h58
    rw [if_neg e58] at hf
    cases hf) ((e_X11_turned_121 _ _ _ _ _ _ _ _).symm.trans h)
  · cases h
noncomputable def k_X11_turned_58 (c89 : zH → Int32 → Int32 → Int32 → Option (zH × Int32)) : Nat → zH → Int32 → Int32 → Int32 → Int32 → Int32 → Option (zH × Int32)
  | 0, _, _, _, _, _, _ => none
  | n + 1, σ, x1, x2, x3, x4, x5 =>
    if (16 : Int32) < x5 then
      some (σ, (-2 : Int32))
    else
      (k_X11_turned_68 c89 (j_X11_turned_121 (k_X11_turned_58 c89 n)) zN) σ x1 x2 x3 x4 x5 (0 : Int32)
theorem e_X11_turned_58 (c89 : zH → Int32 → Int32 → Int32 → Option (zH × Int32)) (n : Nat) (σ : zH) (x1 : Int32) (x2 : Int32) (x3 : Int32) (x4 : Int32) (x5 : Int32) (y6 : zAV) : k_X11_turned_58 c89 (n + 1) σ x1 x2 x3 x4 x5 = zin cc_X11_turned (fun t => if t = 68 then some (gl_X11_turned_68 (k_X11_turned_68 c89 (j_X11_turned_121 (k_X11_turned_58 c89 n)) zN)) else none) 0 krI b_X11_turned 58 σ [vR 11 0, vI x1, vI x2, vI x3, vI x4, vI x5, y6] [] := by
  rw [k_X11_turned_58]
  refine Eq.symm ((zin_b (es := q_X11_turned_58) rfl).trans ?_)
  refine (t_X11_turned_58 _ _ _ _ _ _ _ _ _).trans ?_
  refine x_icmp.trans (pif_gt ?_ ?_)
  · refine (zrun_b (es := q_X11_turned_127) rfl rfl).trans ?_
    refine (t_X11_turned_127 _ _ _ _ _ _ _ _ _ _).trans ?_
    exact x_iret
  · refine (t_X11_turned_65 _ _ _ _ _ _ _ _ _).trans ?_
    refine x_cut.trans ?_
    exact (zrun_c rfl).trans (glr_X11_turned_68 _ _ _ _ _ _ _ _)
theorem s_X11_turned_58 {X : zX} (hX : zHX X) {c89 : zH → Int32 → Int32 → Int32 → Option (zH × Int32)} (h89 : ∀ σ L st r, gl_X11_turned_89 c89 σ L st = some r → zGW X 193 krI 89 σ L st r) : ∀ n σ L st r, gl_X11_turned_58 (k_X11_turned_58 c89 n) σ L st = some r → zGW X 193 krI 58 σ L st r := by
  intro n
  induction n with
  | zero =>
    intro σ L st r h
    unfold gl_X11_turned_58 at h
    split at h <;> cases h
  | succ n ih =>
    intro σ L st r h
    unfold gl_X11_turned_58 at h
    split at h
    · exact zin_ok (hy_X11_turned hX) bk_X11_turned (fun t f hf => by
      by_cases e68 : t = 68
      · rw [if_pos e68] at hf; subst e68; cases hf; exact ((fun σ L st r h => s_X11_turned_68 hX h89 (s_X11_turned_121 hX ih) zN σ L st r h))
      rw [if_neg e68] at hf
      cases hf) ((e_X11_turned_58 _ _ _ _ _ _ _ _ _).symm.trans h)
    · cases h
noncomputable def j_X11_turned_89  (σ : zH) (x4 : Int32) (x5 : Int32) (x6 : Int32) : Option (zH × Int32) :=
  if x4 = 0 then
    some (σ, x6)
  else
    if x4 = (1 : Int32) then
      some (σ, x5)
    else
      some (σ, (σ.1 11 0 60))
theorem e_X11_turned_89  (σ : zH) (x4 : Int32) (x5 : Int32) (x6 : Int32) (y1 : zAV) (y2 : zAV) (y3 : zAV) : j_X11_turned_89 σ x4 x5 x6 = zin cc_X11_turned (fun t => none) 0 krI b_X11_turned 89 σ [vR 11 0, y1, y2, y3, vI x4, vI x5, vI x6] [] := by
  unfold j_X11_turned_89
  refine Eq.symm ((zin_b (es := q_X11_turned_89) rfl).trans ?_)
  refine (t_X11_turned_89 _ _ _ _ _ _ _ _).trans ?_
  refine x_if.trans (pif_ne ?_ ?_)
  · refine (zrun_b (es := q_X11_turned_99) rfl rfl).trans ?_
    refine (t_X11_turned_99 _ _ _ _ _ _ _ _ _).trans ?_
    refine x_icmp.trans (pif_ne ?_ ?_)
    · refine (zrun_b (es := q_X11_turned_110) rfl rfl).trans ?_
      refine (t_X11_turned_110 _ _ _ _ _ _ _ _).trans ?_
      exact x_iret
    · refine (t_X11_turned_105 _ _ _ _ _ _ _ _ _).trans ?_
      refine x_goto.trans ?_
      refine (zrun_b (es := q_X11_turned_114) rfl rfl).trans ?_
      exact x_iret
  · refine (t_X11_turned_94 _ _ _ _ _ _ _ _ _).trans ?_
    refine x_goto.trans ?_
    refine (zrun_b (es := q_X11_turned_114) rfl rfl).trans ?_
    exact x_iret
theorem s_X11_turned_89 {X : zX} (hX : zHX X)   : ∀ σ L st r, gl_X11_turned_89 j_X11_turned_89 σ L st = some r → zGW X 193 krI 89 σ L st r := by
  intro σ L st r h
  unfold gl_X11_turned_89 at h
  split at h
  · exact zin_ok (hy_X11_turned hX) bk_X11_turned (fun t f hf => by
    cases hf) ((e_X11_turned_89 _ _ _ _ _ _ _).symm.trans h)
  · cases h
noncomputable def d_X11_turned (σ : zH) (xa1 : Int32) (xa2 : Int32) (xa3 : Int32) (xa4 : Int32) : Option (zH × Int32) :=
  (d_X11_isLaw σ xa1).bind fun p1 =>
  if p1.2 = 0 then
    some (p1.1, (-1 : Int32))
  else
    (d_X11_in p1.1 xa2.toInt64 (0 : Int64) ((((1 : Int32) <<< ((p1.1.1 42 0 0) &&& 31)) - (1 : Int32)).toInt64)).bind fun p2 =>
    if p2.2 = 0 then
      some (p2.1, (-1 : Int32))
    else
      (d_X11_in p2.1 xa3.toInt64 (1 : Int64) (96 : Int64)).bind fun p3 =>
      if p3.2 = 0 then
        some (p3.1, (-1 : Int32))
      else
        (d_X11_in p3.1 xa4.toInt64 (0 : Int64) (2 : Int64)).bind fun p4 =>
        if p4.2 = 0 then
          some (p4.1, (-1 : Int32))
        else
          (k_X11_turned_58 j_X11_turned_89 zN) p4.1 xa1 xa2 xa3 xa4 (1 : Int32)
theorem e_X11_turned (σ : zH) (xa1 : Int32) (xa2 : Int32) (xa3 : Int32) (xa4 : Int32) : d_X11_turned σ xa1 xa2 xa3 xa4 = zin cc_X11_turned (fun t => if t = 58 then some (gl_X11_turned_58 (k_X11_turned_58 j_X11_turned_89 zN)) else none) 0 krI b_X11_turned 0 σ [vR 11 0, vI xa1, vI xa2, vI xa3, vI xa4, vU, vU] [] := by
  unfold d_X11_turned
  refine Eq.symm ((zin_b (es := q_X11_turned_0) rfl).trans ?_)
  refine (t_X11_turned_0 _ _ _ _ _ _ _ _).trans ?_
  refine (x_callV rfl rfl rfl rfl).trans ((cl_X11_turned_X11_isLaw _ _ _).trans ((gr_X11_isLaw _ _ _).trans (pbd fun _ => ?_)))
  refine x_if.trans (pif_eq ?_ ?_)
  · refine (zrun_b (es := q_X11_turned_53) rfl rfl).trans ?_
    refine (t_X11_turned_53 _ _ _ _ _ _ _ _ _ _).trans ?_
    exact x_iret
  · refine (t_X11_turned_8 _ _ _ _ _ _ _ _ _ _ _).trans ?_
    refine ((x_iald (N := 11) rfl rfl).trans (ix_l 0 (by decide +kernel))).trans ?_
    refine (t_X11_turned_18 _ _ _ _ _ _ _ _ _ _ _ _ _).trans ?_
    refine (x_callS rfl rfl rfl rfl).trans ((cl_X11_turned_X11_in _ _ _).trans ((gr_X11_in _ _ _ _ _).trans (pbd fun _ => ?_)))
    refine x_if.trans (pif_eq ?_ ?_)
    · refine (zrun_b (es := q_X11_turned_53) rfl rfl).trans ?_
      refine (t_X11_turned_53 _ _ _ _ _ _ _ _ _ _).trans ?_
      exact x_iret
    · refine (t_X11_turned_28 _ _ _ _ _ _ _ _ _ _).trans ?_
      refine (x_callS rfl rfl rfl rfl).trans ((cl_X11_turned_X11_in _ _ _).trans ((gr_X11_in _ _ _ _ _).trans (pbd fun _ => ?_)))
      refine x_if.trans (pif_eq ?_ ?_)
      · refine (zrun_b (es := q_X11_turned_53) rfl rfl).trans ?_
        refine (t_X11_turned_53 _ _ _ _ _ _ _ _ _ _).trans ?_
        exact x_iret
      · refine (t_X11_turned_40 _ _ _ _ _ _ _ _ _ _).trans ?_
        refine (x_callS rfl rfl rfl rfl).trans ((cl_X11_turned_X11_in _ _ _).trans ((gr_X11_in _ _ _ _ _).trans (pbd fun _ => ?_)))
        refine x_if.trans (pif_ne ?_ ?_)
        · refine (zrun_b (es := q_X11_turned_55) rfl rfl).trans ?_
          refine (t_X11_turned_55 _ _ _ _ _ _ _ _ _).trans ?_
          refine x_cut.trans ?_
          exact (zrun_c rfl).trans (glr_X11_turned_58 _ _ _ _ _ _ _ _)
        · refine (t_X11_turned_53 _ _ _ _ _ _ _ _ _ _).trans ?_
          exact x_iret
noncomputable def g_X11_turned {ρ : Type} (σ : zH) (av : List zAV) (q : zH → zAV → Option ρ) : Option ρ := match av with
  | [.inr (.inr (.inl (11, 0))), .inl xa1, .inl xa2, .inl xa3, .inl xa4] => (d_X11_turned σ xa1 xa2 xa3 xa4).bind fun p => q p.1 (vI p.2)
  | _ => none
theorem gr_X11_turned {ρ : Type} (σ : zH) (xa1 : Int32) (xa2 : Int32) (xa3 : Int32) (xa4 : Int32) (q : zH → zAV → Option ρ) : g_X11_turned σ [vR 11 0, vI xa1, vI xa2, vI xa3, vI xa4] q = (d_X11_turned σ xa1 xa2 xa3 xa4).bind fun p => q p.1 (vI p.2) := rfl
theorem c_X11_turned {ρ : Type} {X : zX} (hX : zHX X) {σ : zH} {av : List zAV} {q : zH → zAV → Option ρ} {r : ρ} (h : g_X11_turned σ av q = some r) (hv : ∀ a ∈ av, zval X a) : zcon X 193 σ av q r := by
  unfold g_X11_turned at h
  split at h
  · exact zcon_I (n := 193) (ml := 7) (rc := 0) (st := 0) (kd := 11) (np := 4) (by decide +kernel) (by decide) ⟨_, _, rfl, rfl⟩ (Nat.le_of_ble_eq_true rfl) hv h (fun y h1 => (zin_ok (hy_X11_turned hX) bk_X11_turned (fun t f hf => by
      by_cases e58 : t = 58
      · rw [if_pos e58] at hf; subst e58; cases hf; exact ((fun σ L st r h => s_X11_turned_58 hX (s_X11_turned_89 hX) zN σ L st r h))
      rw [if_neg e58] at hf
      cases hf) ((e_X11_turned _ _ _ _ _).symm.trans h1)))
  · cases h
/-! SleepWavesModel.wonBy(II)I -/
def q_X11_wonBy_0 : List zEnt := zEk 0 (.iconst 0) 1 0 :: zE 1 (.istore_n 3) 1 :: [zE 2 .nop 0]
def q_X11_wonBy_62 : List zEnt := zE 62 .ireturn 1 :: []
def q_X11_wonBy_59 : List zEnt := zEk 59 (.iconst 1) 1 1 :: zE 60 (.iload_n 3) 1 :: zE 61 .ishl 1 :: q_X11_wonBy_62
def q_X11_wonBy_56 : List zEnt := zEa 56 (.if_icmp .ne 7) 3 63 :: q_X11_wonBy_59
def q_X11_wonBy_55 : List zEnt := zE 55 .iaload 1 :: q_X11_wonBy_56
def q_X11_wonBy_50 : List zEnt := zE 50 (.aload_n 0) 1 :: zEf 51 (.getfield 19) 3 11 4 152 (2, 45, 0) :: zE 54 (.iload_n 1) 1 :: q_X11_wonBy_55
def q_X11_wonBy_49 : List zEnt := zE 49 .iaload 1 :: q_X11_wonBy_50
def q_X11_wonBy_44 : List zEnt := zE 44 (.aload_n 0) 1 :: zEf 45 (.getfield 19) 3 11 4 152 (2, 45, 0) :: zE 48 (.iload_n 3) 1 :: q_X11_wonBy_49
def q_X11_wonBy_41 : List zEnt := zEa 41 (.if_icmp .eq 18) 3 59 :: q_X11_wonBy_44
def q_X11_wonBy_40 : List zEnt := zE 40 .iaload 1 :: q_X11_wonBy_41
def q_X11_wonBy_35 : List zEnt := zE 35 (.aload_n 0) 1 :: zEf 36 (.getfield 16) 3 11 3 151 (2, 44, 0) :: zE 39 (.iload_n 1) 1 :: q_X11_wonBy_40
def q_X11_wonBy_34 : List zEnt := zE 34 .iaload 1 :: q_X11_wonBy_35
def q_X11_wonBy_29 : List zEnt := zE 29 (.aload_n 0) 1 :: zEf 30 (.getfield 16) 3 11 3 151 (2, 44, 0) :: zE 33 (.iload_n 3) 1 :: q_X11_wonBy_34
def q_X11_wonBy_26 : List zEnt := zEa 26 (.ifCond .ne 37) 3 63 :: q_X11_wonBy_29
def q_X11_wonBy_25 : List zEnt := zE 25 .iaload 1 :: q_X11_wonBy_26
def q_X11_wonBy_20 : List zEnt := zE 20 (.aload_n 0) 1 :: zEf 21 (.getfield 70) 3 11 21 169 (2, 62, 0) :: zE 24 (.iload_n 3) 1 :: q_X11_wonBy_25
def q_X11_wonBy_17 : List zEnt := zEa 17 (.ifCond .ne 46) 3 63 :: q_X11_wonBy_20
def q_X11_wonBy_14 : List zEnt := zEc 14 (.invokestatic 177) 3 126 2 154 0 :: q_X11_wonBy_17
def q_X11_wonBy_12 : List zEnt := zE 12 (.iload_n 2) 1 :: zE 13 (.iload_n 3) 1 :: q_X11_wonBy_14
def q_X11_wonBy_9 : List zEnt := zEa 9 (.if_icmp .ge 60) 3 69 :: q_X11_wonBy_12
def q_X11_wonBy_8 : List zEnt := zE 8 .iaload 1 :: q_X11_wonBy_9
def q_X11_wonBy_2 : List zEnt := zE 2 (.iload_n 3) 1 :: zE 3 (.aload_n 0) 1 :: zEf 4 (.getfield 7) 3 11 1 149 (2, 42, 0) :: zEk 7 (.iconst 0) 1 0 :: q_X11_wonBy_8
def q_X11_wonBy_66 : List zEnt := zEa 66 (.goto (-64)) 3 2 :: []
def q_X11_wonBy_63 : List zEnt := zEk 63 (.iinc 3 1) 3 1 :: q_X11_wonBy_66
def q_X11_wonBy_70 : List zEnt := zE 70 .ireturn 1 :: []
def q_X11_wonBy_69 : List zEnt := zEk 69 (.iconst 0) 1 0 :: q_X11_wonBy_70
def b_X11_wonBy : List (Nat × List zEnt) := [(0, q_X11_wonBy_0), (2, q_X11_wonBy_2), (59, q_X11_wonBy_59), (63, q_X11_wonBy_63), (69, q_X11_wonBy_69)]
theorem bk_X11_wonBy : zchB 194 b_X11_wonBy = true := by decide +kernel
noncomputable def cc_X11_wonBy {ρ : Type} : Nat → zH → List zAV → (zH → zAV → Option ρ) → Option ρ := fun n σ av q => if n = 126 then g_X11_has σ av q else none
theorem cs_X11_wonBy {ρ : Type} {X : zX} (hX : zHX X) : zCS X (cc_X11_wonBy (ρ := ρ)) := by
  intro n σ av q r h hv
  unfold cc_X11_wonBy at h
  by_cases e_X11_has : n = 126
  · rw [if_pos e_X11_has] at h
    subst e_X11_has
    exact c_X11_has hX h hv
  rw [if_neg e_X11_has] at h
  cases h
theorem cl_X11_wonBy_X11_has {ρ : Type} (σ : zH) (av : List zAV) (q : zH → zAV → Option ρ) : cc_X11_wonBy 126 σ av q = g_X11_has σ av q := rfl
theorem hy_X11_wonBy {ρ : Type} {X : zX} (hX : zHX X) : zHY X 194 (cc_X11_wonBy (ρ := ρ)) := zHX.hY hX (cs_X11_wonBy hX) (zmok_all 194 (by decide))
def gl_X11_wonBy_2 {ρ : Type} (f : zH → Int32 → Int32 → Int32 → Option ρ) (σ : zH) (L st : List zAV) : Option ρ := match L, st with
  | [.inr (.inr (.inl (11, 0))), .inl x1, .inl x2, .inl x3], [] => f σ x1 x2 x3
  | _, _ => none
theorem glr_X11_wonBy_2 {ρ : Type} (f : zH → Int32 → Int32 → Int32 → Option ρ) (σ : zH) (x1 : Int32) (x2 : Int32) (x3 : Int32)  : gl_X11_wonBy_2 f σ [vR 11 0, vI x1, vI x2, vI x3] [] = f σ x1 x2 x3 := rfl
theorem t_X11_wonBy_0 {G : Nat → zH → List zAV → List zAV → Option (zH × Int32)} (es : List zEnt) (σ : zH) (x1 : Int32) (x2 : Int32) (y3 : zAV) (w0 : Int32) : zev cc_X11_wonBy G 0 krI (zEk 0 (.iconst 0) 1 w0 :: zE 1 (.istore_n 3) 1 :: es) σ [vR 11 0, vI x1, vI x2, y3] [] = zev cc_X11_wonBy G 0 krI es σ [vR 11 0, vI x1, vI x2, vI w0] [] := rfl
theorem t_X11_wonBy_2 {G : Nat → zH → List zAV → List zAV → Option (zH × Int32)} (es : List zEnt) (σ : zH) (x1 : Int32) (x2 : Int32) (x3 : Int32)  (w7 : Int32) : zev cc_X11_wonBy G 0 krI (zE 2 (.iload_n 3) 1 :: zE 3 (.aload_n 0) 1 :: zEf 4 (.getfield 7) 3 11 1 149 (2, 42, 0) :: zEk 7 (.iconst 0) 1 w7 :: es) σ [vR 11 0, vI x1, vI x2, vI x3] [] = zev cc_X11_wonBy G 0 krI es σ [vR 11 0, vI x1, vI x2, vI x3] [vI w7, vR 42 0, vI x3] := rfl
theorem t_X11_wonBy_12 {G : Nat → zH → List zAV → List zAV → Option (zH × Int32)} (es : List zEnt) (σ : zH) (x1 : Int32) (x2 : Int32) (x3 : Int32)   : zev cc_X11_wonBy G 0 krI (zE 12 (.iload_n 2) 1 :: zE 13 (.iload_n 3) 1 :: es) σ [vR 11 0, vI x1, vI x2, vI x3] [] = zev cc_X11_wonBy G 0 krI es σ [vR 11 0, vI x1, vI x2, vI x3] [vI x3, vI x2] := rfl
theorem t_X11_wonBy_20 {G : Nat → zH → List zAV → List zAV → Option (zH × Int32)} (es : List zEnt) (σ : zH) (x1 : Int32) (x2 : Int32) (x3 : Int32)   : zev cc_X11_wonBy G 0 krI (zE 20 (.aload_n 0) 1 :: zEf 21 (.getfield 70) 3 11 21 169 (2, 62, 0) :: zE 24 (.iload_n 3) 1 :: es) σ [vR 11 0, vI x1, vI x2, vI x3] [] = zev cc_X11_wonBy G 0 krI es σ [vR 11 0, vI x1, vI x2, vI x3] [vI x3, vR 62 0] := rfl
theorem t_X11_wonBy_29 {G : Nat → zH → List zAV → List zAV → Option (zH × Int32)} (es : List zEnt) (σ : zH) (x1 : Int32) (x2 : Int32) (x3 : Int32)   : zev cc_X11_wonBy G 0 krI (zE 29 (.aload_n 0) 1 :: zEf 30 (.getfield 16) 3 11 3 151 (2, 44, 0) :: zE 33 (.iload_n 3) 1 :: es) σ [vR 11 0, vI x1, vI x2, vI x3] [] = zev cc_X11_wonBy G 0 krI es σ [vR 11 0, vI x1, vI x2, vI x3] [vI x3, vR 44 0] := rfl
theorem t_X11_wonBy_35 {G : Nat → zH → List zAV → List zAV → Option (zH × Int32)} (es : List zEnt) (σ : zH) (x1 : Int32) (x2 : Int32) (x3 : Int32) (xs0 : Int32)   : zev cc_X11_wonBy G 0 krI (zE 35 (.aload_n 0) 1 :: zEf 36 (.getfield 16) 3 11 3 151 (2, 44, 0) :: zE 39 (.iload_n 1) 1 :: es) σ [vR 11 0, vI x1, vI x2, vI x3] [vI xs0] = zev cc_X11_wonBy G 0 krI es σ [vR 11 0, vI x1, vI x2, vI x3] [vI x1, vR 44 0, vI xs0] := rfl
theorem t_X11_wonBy_44 {G : Nat → zH → List zAV → List zAV → Option (zH × Int32)} (es : List zEnt) (σ : zH) (x1 : Int32) (x2 : Int32) (x3 : Int32)   : zev cc_X11_wonBy G 0 krI (zE 44 (.aload_n 0) 1 :: zEf 45 (.getfield 19) 3 11 4 152 (2, 45, 0) :: zE 48 (.iload_n 3) 1 :: es) σ [vR 11 0, vI x1, vI x2, vI x3] [] = zev cc_X11_wonBy G 0 krI es σ [vR 11 0, vI x1, vI x2, vI x3] [vI x3, vR 45 0] := rfl
theorem t_X11_wonBy_50 {G : Nat → zH → List zAV → List zAV → Option (zH × Int32)} (es : List zEnt) (σ : zH) (x1 : Int32) (x2 : Int32) (x3 : Int32) (xs0 : Int32)   : zev cc_X11_wonBy G 0 krI (zE 50 (.aload_n 0) 1 :: zEf 51 (.getfield 19) 3 11 4 152 (2, 45, 0) :: zE 54 (.iload_n 1) 1 :: es) σ [vR 11 0, vI x1, vI x2, vI x3] [vI xs0] = zev cc_X11_wonBy G 0 krI es σ [vR 11 0, vI x1, vI x2, vI x3] [vI x1, vR 45 0, vI xs0] := rfl
theorem t_X11_wonBy_59 {G : Nat → zH → List zAV → List zAV → Option (zH × Int32)} (es : List zEnt) (σ : zH) (x3 : Int32) (y0 : zAV) (y1 : zAV) (y2 : zAV) (w59 : Int32) : zev cc_X11_wonBy G 0 krI (zEk 59 (.iconst 1) 1 w59 :: zE 60 (.iload_n 3) 1 :: zE 61 .ishl 1 :: es) σ [y0, y1, y2, vI x3] [] = zev cc_X11_wonBy G 0 krI es σ [y0, y1, y2, vI x3] [vI (w59 <<< (x3 &&& 31))] := rfl
theorem t_X11_wonBy_63 {G : Nat → zH → List zAV → List zAV → Option (zH × Int32)} (es : List zEnt) (σ : zH) (x1 : Int32) (x2 : Int32) (x3 : Int32)  (w63 : Int32) : zev cc_X11_wonBy G 0 krI (zEk 63 (.iinc 3 1) 3 w63 :: es) σ [vR 11 0, vI x1, vI x2, vI x3] [] = zev cc_X11_wonBy G 0 krI es σ [vR 11 0, vI x1, vI x2, vI (x3 + w63)] [] := rfl
theorem t_X11_wonBy_69 {G : Nat → zH → List zAV → List zAV → Option (zH × Int32)} (es : List zEnt) (σ : zH)  (y0 : zAV) (y1 : zAV) (y2 : zAV) (y3 : zAV) (w69 : Int32) : zev cc_X11_wonBy G 0 krI (zEk 69 (.iconst 0) 1 w69 :: es) σ [y0, y1, y2, y3] [] = zev cc_X11_wonBy G 0 krI es σ [y0, y1, y2, y3] [vI w69] := rfl
noncomputable def k_X11_wonBy_2  : Nat → zH → Int32 → Int32 → Int32 → Option (zH × Int32)
  | 0, _, _, _, _ => none
  | n + 1, σ, x1, x2, x3 =>
    if x3 < (σ.1 42 0 0) then
      (d_X11_has σ x2 x3).bind fun p1 =>
      if p1.2 = 0 then
        ix x3 12 fun j2 =>
        if (p1.1.1 62 0 j2) = 0 then
          ix x3 12 fun j3 =>
          ix x1 12 fun j4 =>
          if (p1.1.1 44 0 j3) = (p1.1.1 44 0 j4) then
            some (p1.1, ((1 : Int32) <<< (x3 &&& 31)))
          else
            ix x3 12 fun j5 =>
            ix x1 12 fun j6 =>
            if (p1.1.1 45 0 j5) = (p1.1.1 45 0 j6) then
              some (p1.1, ((1 : Int32) <<< (x3 &&& 31)))
            else
              (k_X11_wonBy_2 n) p1.1 x1 x2 (x3 + (1 : Int32))
        else
          (k_X11_wonBy_2 n) p1.1 x1 x2 (x3 + (1 : Int32))
      else
        (k_X11_wonBy_2 n) p1.1 x1 x2 (x3 + (1 : Int32))
    else
      some (σ, (0 : Int32))
theorem e_X11_wonBy_2  (n : Nat) (σ : zH) (x1 : Int32) (x2 : Int32) (x3 : Int32)  : k_X11_wonBy_2 (n + 1) σ x1 x2 x3 = zin cc_X11_wonBy (fun t => if t = 2 then some (gl_X11_wonBy_2 (k_X11_wonBy_2 n)) else none) 0 krI b_X11_wonBy 2 σ [vR 11 0, vI x1, vI x2, vI x3] [] := by
  rw [k_X11_wonBy_2]
  refine Eq.symm ((zin_b (es := q_X11_wonBy_2) rfl).trans ?_)
  refine (t_X11_wonBy_2 _ _ _ _ _ _).trans ?_
  refine ((x_iald (N := 11) rfl rfl).trans (ix_l 0 (by decide +kernel))).trans ?_
  refine x_icmp.trans (pif_ge ?_ ?_)
  · refine (zrun_b (es := q_X11_wonBy_69) rfl rfl).trans ?_
    refine (t_X11_wonBy_69 _ _ _ _ _ _ _).trans ?_
    exact x_iret
  · refine (t_X11_wonBy_12 _ _ _ _ _).trans ?_
    refine (x_callS rfl rfl rfl rfl).trans ((cl_X11_wonBy_X11_has _ _ _).trans ((gr_X11_has _ _ _ _).trans (pbd fun _ => ?_)))
    refine x_if.trans (pif_ne ?_ ?_)
    · refine (zrun_b (es := q_X11_wonBy_63) rfl rfl).trans ?_
      refine (t_X11_wonBy_63 _ _ _ _ _ _).trans ?_
      refine x_goto.trans ?_
      exact (zrun_c rfl).trans (glr_X11_wonBy_2 _ _ _ _ _)
    · refine (t_X11_wonBy_20 _ _ _ _ _).trans ?_
      refine (x_iald (N := 12) rfl rfl).trans (pix fun _ => ?_)
      refine x_if.trans (pif_ne ?_ ?_)
      · refine (zrun_b (es := q_X11_wonBy_63) rfl rfl).trans ?_
        refine (t_X11_wonBy_63 _ _ _ _ _ _).trans ?_
        refine x_goto.trans ?_
        exact (zrun_c rfl).trans (glr_X11_wonBy_2 _ _ _ _ _)
      · refine (t_X11_wonBy_29 _ _ _ _ _).trans ?_
        refine (x_iald (N := 12) rfl rfl).trans (pix fun _ => ?_)
        refine (t_X11_wonBy_35 _ _ _ _ _ _).trans ?_
        refine (x_iald (N := 12) rfl rfl).trans (pix fun _ => ?_)
        refine x_icmp.trans (pif_eq ?_ ?_)
        · refine (zrun_b (es := q_X11_wonBy_59) rfl rfl).trans ?_
          refine (t_X11_wonBy_59 _ _ _ _ _ _ _).trans ?_
          exact x_iret
        · refine (t_X11_wonBy_44 _ _ _ _ _).trans ?_
          refine (x_iald (N := 12) rfl rfl).trans (pix fun _ => ?_)
          refine (t_X11_wonBy_50 _ _ _ _ _ _).trans ?_
          refine (x_iald (N := 12) rfl rfl).trans (pix fun _ => ?_)
          refine x_icmp.trans (pif_ne ?_ ?_)
          · refine (zrun_b (es := q_X11_wonBy_63) rfl rfl).trans ?_
            refine (t_X11_wonBy_63 _ _ _ _ _ _).trans ?_
            refine x_goto.trans ?_
            exact (zrun_c rfl).trans (glr_X11_wonBy_2 _ _ _ _ _)
          · refine (t_X11_wonBy_59 _ _ _ _ _ _ _).trans ?_
            exact x_iret
theorem s_X11_wonBy_2 {X : zX} (hX : zHX X)   : ∀ n σ L st r, gl_X11_wonBy_2 (k_X11_wonBy_2 n) σ L st = some r → zGW X 194 krI 2 σ L st r := by
  intro n
  induction n with
  | zero =>
    intro σ L st r h
    unfold gl_X11_wonBy_2 at h
    split at h <;> cases h
  | succ n ih =>
    intro σ L st r h
    unfold gl_X11_wonBy_2 at h
    split at h
    · exact zin_ok (hy_X11_wonBy hX) bk_X11_wonBy (fun t f hf => by
      by_cases e2 : t = 2
      · rw [if_pos e2] at hf; subst e2; cases hf; exact ih
      rw [if_neg e2] at hf
      cases hf) ((e_X11_wonBy_2 _ _ _ _ _).symm.trans h)
    · cases h
noncomputable def d_X11_wonBy (σ : zH) (xa1 : Int32) (xa2 : Int32) : Option (zH × Int32) :=
  (k_X11_wonBy_2 zN) σ xa1 xa2 (0 : Int32)
theorem e_X11_wonBy (σ : zH) (xa1 : Int32) (xa2 : Int32) : d_X11_wonBy σ xa1 xa2 = zin cc_X11_wonBy (fun t => if t = 2 then some (gl_X11_wonBy_2 (k_X11_wonBy_2 zN)) else none) 0 krI b_X11_wonBy 0 σ [vR 11 0, vI xa1, vI xa2, vU] [] := by
  unfold d_X11_wonBy
  refine Eq.symm ((zin_b (es := q_X11_wonBy_0) rfl).trans ?_)
  refine (t_X11_wonBy_0 _ _ _ _ _ _).trans ?_
  refine x_cut.trans ?_
  exact (zrun_c rfl).trans (glr_X11_wonBy_2 _ _ _ _ _)
noncomputable def g_X11_wonBy {ρ : Type} (σ : zH) (av : List zAV) (q : zH → zAV → Option ρ) : Option ρ := match av with
  | [.inr (.inr (.inl (11, 0))), .inl xa1, .inl xa2] => (d_X11_wonBy σ xa1 xa2).bind fun p => q p.1 (vI p.2)
  | _ => none
theorem gr_X11_wonBy {ρ : Type} (σ : zH) (xa1 : Int32) (xa2 : Int32) (q : zH → zAV → Option ρ) : g_X11_wonBy σ [vR 11 0, vI xa1, vI xa2] q = (d_X11_wonBy σ xa1 xa2).bind fun p => q p.1 (vI p.2) := rfl
theorem c_X11_wonBy {ρ : Type} {X : zX} (hX : zHX X) {σ : zH} {av : List zAV} {q : zH → zAV → Option ρ} {r : ρ} (h : g_X11_wonBy σ av q = some r) (hv : ∀ a ∈ av, zval X a) : zcon X 194 σ av q r := by
  unfold g_X11_wonBy at h
  split at h
  · exact zcon_I (n := 194) (ml := 4) (rc := 0) (st := 0) (kd := 11) (np := 2) (by decide +kernel) (by decide) ⟨_, _, rfl, rfl⟩ (Nat.le_of_ble_eq_true rfl) hv h (fun y h1 => (zin_ok (hy_X11_wonBy hX) bk_X11_wonBy (fun t f hf => by
      by_cases e2 : t = 2
      · rw [if_pos e2] at hf; subst e2; cases hf; exact ((fun σ L st r h => s_X11_wonBy_2 hX  zN σ L st r h))
      rw [if_neg e2] at hf
      cases hf) ((e_X11_wonBy _ _ _).symm.trans h1)))
  · cases h
/-! SleepWavesModel.mutineers(IIII)I -/
def q_X11_mutineers_4 : List zEnt := zEk 4 (.iconst 0) 1 0 :: zE 5 (.istore 5) 2 :: [zE 7 .nop 0]
def q_X11_mutineers_1 : List zEnt := zEc 1 (.invokevirtual 431) 3 187 1 169 1 :: q_X11_mutineers_4
def q_X11_mutineers_0 : List zEnt := zE 0 (.aload_n 0) 1 :: q_X11_mutineers_1
def q_X11_mutineers_21 : List zEnt := zEa 21 (.goto (-14)) 3 7 :: []
def q_X11_mutineers_18 : List zEnt := zEk 18 (.iinc 5 1) 3 1 :: q_X11_mutineers_21
def q_X11_mutineers_15 : List zEnt := zEc 15 (.invokevirtual 423) 3 180 2 146 1 :: q_X11_mutineers_18
def q_X11_mutineers_13 : List zEnt := zE 13 (.aload_n 0) 1 :: zE 14 (.iload_n 1) 1 :: q_X11_mutineers_15
def q_X11_mutineers_10 : List zEnt := zEa 10 (.if_icmp .ge 14) 3 24 :: q_X11_mutineers_13
def q_X11_mutineers_7 : List zEnt := zE 7 (.iload 5) 2 :: zE 9 (.iload_n 3) 1 :: q_X11_mutineers_10
def q_X11_mutineers_24 : List zEnt := zEk 24 (.iconst 1) 1 1 :: zE 25 (.iload_n 2) 1 :: zE 26 .ishl 1 :: zE 27 (.istore 5) 2 :: zEk 29 (.iconst 0) 1 0 :: zE 30 (.istore 6) 2 :: [zE 32 .nop 0]
def q_X11_mutineers_44 : List zEnt := zE 44 (.iload 5) 2 :: zE 46 (.istore 7) 2 :: zEk 48 (.iconst 0) 1 0 :: zE 49 (.istore 8) 2 :: [zE 51 .nop 0]
def q_X11_mutineers_41 : List zEnt := zEc 41 (.invokevirtual 423) 3 180 2 146 1 :: q_X11_mutineers_44
def q_X11_mutineers_39 : List zEnt := zE 39 (.aload_n 0) 1 :: zE 40 (.iload_n 1) 1 :: q_X11_mutineers_41
def q_X11_mutineers_36 : List zEnt := zEa 36 (.if_icmp .ge 75) 3 111 :: q_X11_mutineers_39
def q_X11_mutineers_32 : List zEnt := zE 32 (.iload 6) 2 :: zE 34 (.iload 4) 2 :: q_X11_mutineers_36
def q_X11_mutineers_92 : List zEnt := zEa 92 (.goto 4) 3 96 :: []
def q_X11_mutineers_89 : List zEnt := zEc 89 (.invokevirtual 457) 3 194 3 174 0 :: q_X11_mutineers_92
def q_X11_mutineers_84 : List zEnt := zE 84 (.aload_n 0) 1 :: zE 85 (.iload 8) 2 :: zE 87 (.iload 5) 2 :: q_X11_mutineers_89
def q_X11_mutineers_81 : List zEnt := zEa 81 (.ifCond .ne 14) 3 95 :: q_X11_mutineers_84
def q_X11_mutineers_80 : List zEnt := zE 80 .iaload 1 :: q_X11_mutineers_81
def q_X11_mutineers_74 : List zEnt := zE 74 (.aload_n 0) 1 :: zEf 75 (.getfield 70) 3 11 21 169 (2, 62, 0) :: zE 78 (.iload 8) 2 :: q_X11_mutineers_80
def q_X11_mutineers_71 : List zEnt := zEa 71 (.ifCond .eq 24) 3 95 :: q_X11_mutineers_74
def q_X11_mutineers_68 : List zEnt := zEc 68 (.invokestatic 177) 3 126 2 154 0 :: q_X11_mutineers_71
def q_X11_mutineers_62 : List zEnt := zE 62 (.iload 5) 2 :: zE 64 (.iload 7) 2 :: zE 66 (.iload 8) 2 :: q_X11_mutineers_68
def q_X11_mutineers_59 : List zEnt := zEa 59 (.if_icmp .ge 46) 3 105 :: q_X11_mutineers_62
def q_X11_mutineers_58 : List zEnt := zE 58 .iaload 1 :: q_X11_mutineers_59
def q_X11_mutineers_51 : List zEnt := zE 51 (.iload 8) 2 :: zE 53 (.aload_n 0) 1 :: zEf 54 (.getfield 7) 3 11 1 149 (2, 42, 0) :: zEk 57 (.iconst 0) 1 0 :: q_X11_mutineers_58
def q_X11_mutineers_95 : List zEnt := zEk 95 (.iconst 0) 1 0 :: [zE 96 .nop 0]
def q_X11_mutineers_102 : List zEnt := zEa 102 (.goto (-51)) 3 51 :: []
def q_X11_mutineers_96 : List zEnt := zE 96 .ior 1 :: zE 97 (.istore 5) 2 :: zEk 99 (.iinc 8 1) 3 1 :: q_X11_mutineers_102
def q_X11_mutineers_108 : List zEnt := zEa 108 (.goto (-76)) 3 32 :: []
def q_X11_mutineers_105 : List zEnt := zEk 105 (.iinc 6 1) 3 1 :: q_X11_mutineers_108
def q_X11_mutineers_121 : List zEnt := zE 121 .ireturn 1 :: []
def q_X11_mutineers_118 : List zEnt := zEc 118 (.invokevirtual 359) 3 129 2 153 0 :: q_X11_mutineers_121
def q_X11_mutineers_115 : List zEnt := zE 115 (.aload_n 0) 1 :: zE 116 (.iload 5) 2 :: q_X11_mutineers_118
def q_X11_mutineers_112 : List zEnt := zEc 112 (.invokevirtual 437) 3 188 1 171 1 :: q_X11_mutineers_115
def q_X11_mutineers_111 : List zEnt := zE 111 (.aload_n 0) 1 :: q_X11_mutineers_112
def b_X11_mutineers : List (Nat × List zEnt) := [(0, q_X11_mutineers_0), (7, q_X11_mutineers_7), (24, q_X11_mutineers_24), (32, q_X11_mutineers_32), (51, q_X11_mutineers_51), (95, q_X11_mutineers_95), (96, q_X11_mutineers_96), (105, q_X11_mutineers_105), (111, q_X11_mutineers_111)]
theorem bk_X11_mutineers : zchB 195 b_X11_mutineers = true := by decide +kernel
noncomputable def cc_X11_mutineers {ρ : Type} : Nat → zH → List zAV → (zH → zAV → Option ρ) → Option ρ := fun n σ av q => if n = 187 then g_X11_keeps σ av q else if n = 180 then g_X11_quarter σ av q else if n = 126 then g_X11_has σ av q else if n = 194 then g_X11_wonBy σ av q else if n = 188 then g_X11_laysBack σ av q else if n = 129 then g_X11_menOf σ av q else none
theorem cs_X11_mutineers {ρ : Type} {X : zX} (hX : zHX X) : zCS X (cc_X11_mutineers (ρ := ρ)) := by
  intro n σ av q r h hv
  unfold cc_X11_mutineers at h
  by_cases e_X11_keeps : n = 187
  · rw [if_pos e_X11_keeps] at h
    subst e_X11_keeps
    exact c_X11_keeps hX h hv
  rw [if_neg e_X11_keeps] at h
  by_cases e_X11_quarter : n = 180
  · rw [if_pos e_X11_quarter] at h
    subst e_X11_quarter
    exact c_X11_quarter hX h hv
  rw [if_neg e_X11_quarter] at h
  by_cases e_X11_has : n = 126
  · rw [if_pos e_X11_has] at h
    subst e_X11_has
    exact c_X11_has hX h hv
  rw [if_neg e_X11_has] at h
  by_cases e_X11_wonBy : n = 194
  · rw [if_pos e_X11_wonBy] at h
    subst e_X11_wonBy
    exact c_X11_wonBy hX h hv
  rw [if_neg e_X11_wonBy] at h
  by_cases e_X11_laysBack : n = 188
  · rw [if_pos e_X11_laysBack] at h
    subst e_X11_laysBack
    exact c_X11_laysBack hX h hv
  rw [if_neg e_X11_laysBack] at h
  by_cases e_X11_menOf : n = 129
  · rw [if_pos e_X11_menOf] at h
    subst e_X11_menOf
    exact c_X11_menOf hX h hv
  rw [if_neg e_X11_menOf] at h
  cases h
theorem cl_X11_mutineers_X11_keeps {ρ : Type} (σ : zH) (av : List zAV) (q : zH → zAV → Option ρ) : cc_X11_mutineers 187 σ av q = g_X11_keeps σ av q := rfl
theorem cl_X11_mutineers_X11_quarter {ρ : Type} (σ : zH) (av : List zAV) (q : zH → zAV → Option ρ) : cc_X11_mutineers 180 σ av q = g_X11_quarter σ av q := rfl
theorem cl_X11_mutineers_X11_has {ρ : Type} (σ : zH) (av : List zAV) (q : zH → zAV → Option ρ) : cc_X11_mutineers 126 σ av q = g_X11_has σ av q := rfl
theorem cl_X11_mutineers_X11_wonBy {ρ : Type} (σ : zH) (av : List zAV) (q : zH → zAV → Option ρ) : cc_X11_mutineers 194 σ av q = g_X11_wonBy σ av q := rfl
theorem cl_X11_mutineers_X11_laysBack {ρ : Type} (σ : zH) (av : List zAV) (q : zH → zAV → Option ρ) : cc_X11_mutineers 188 σ av q = g_X11_laysBack σ av q := rfl
theorem cl_X11_mutineers_X11_menOf {ρ : Type} (σ : zH) (av : List zAV) (q : zH → zAV → Option ρ) : cc_X11_mutineers 129 σ av q = g_X11_menOf σ av q := rfl
theorem hy_X11_mutineers {ρ : Type} {X : zX} (hX : zHX X) : zHY X 195 (cc_X11_mutineers (ρ := ρ)) := zHX.hY hX (cs_X11_mutineers hX) (zmok_all 195 (by decide))
def gl_X11_mutineers_7 {ρ : Type} (f : zH → Int32 → Int32 → Int32 → Int32 → Int32 → Option ρ) (σ : zH) (L st : List zAV) : Option ρ := match L, st with
  | [.inr (.inr (.inl (11, 0))), .inl x1, .inl x2, .inl x3, .inl x4, .inl x5, _, _, _], [] => f σ x1 x2 x3 x4 x5
  | _, _ => none
def gl_X11_mutineers_24 {ρ : Type} (f : zH → Int32 → Int32 → Int32 → Option ρ) (σ : zH) (L st : List zAV) : Option ρ := match L, st with
  | [.inr (.inr (.inl (11, 0))), .inl x1, .inl x2, _, .inl x4, _, _, _, _], [] => f σ x1 x2 x4
  | _, _ => none
def gl_X11_mutineers_32 {ρ : Type} (f : zH → Int32 → Int32 → Int32 → Int32 → Option ρ) (σ : zH) (L st : List zAV) : Option ρ := match L, st with
  | [.inr (.inr (.inl (11, 0))), .inl x1, _, _, .inl x4, .inl x5, .inl x6, _, _], [] => f σ x1 x4 x5 x6
  | _, _ => none
def gl_X11_mutineers_51 {ρ : Type} (f : zH → Int32 → Int32 → Int32 → Int32 → Int32 → Int32 → Option ρ) (σ : zH) (L st : List zAV) : Option ρ := match L, st with
  | [.inr (.inr (.inl (11, 0))), .inl x1, _, _, .inl x4, .inl x5, .inl x6, .inl x7, .inl x8], [] => f σ x1 x4 x5 x6 x7 x8
  | _, _ => none
def gl_X11_mutineers_95 {ρ : Type} (f : zH → Int32 → Int32 → Int32 → Int32 → Int32 → Int32 → Option ρ) (σ : zH) (L st : List zAV) : Option ρ := match L, st with
  | [.inr (.inr (.inl (11, 0))), .inl x1, _, _, .inl x4, _, .inl x6, .inl x7, .inl x8], [.inl xs0] => f σ x1 x4 x6 x7 x8 xs0
  | _, _ => none
def gl_X11_mutineers_96 {ρ : Type} (f : zH → Int32 → Int32 → Int32 → Int32 → Int32 → Int32 → Int32 → Option ρ) (σ : zH) (L st : List zAV) : Option ρ := match L, st with
  | [.inr (.inr (.inl (11, 0))), .inl x1, _, _, .inl x4, _, .inl x6, .inl x7, .inl x8], [.inl xs1, .inl xs0] => f σ x1 x4 x6 x7 x8 xs0 xs1
  | _, _ => none
def gl_X11_mutineers_105 {ρ : Type} (f : zH → Int32 → Int32 → Int32 → Int32 → Option ρ) (σ : zH) (L st : List zAV) : Option ρ := match L, st with
  | [.inr (.inr (.inl (11, 0))), .inl x1, _, _, .inl x4, .inl x5, .inl x6, _, _], [] => f σ x1 x4 x5 x6
  | _, _ => none
def gl_X11_mutineers_111 {ρ : Type} (f : zH → Int32 → Option ρ) (σ : zH) (L st : List zAV) : Option ρ := match L, st with
  | [.inr (.inr (.inl (11, 0))), _, _, _, _, .inl x5, _, _, _], [] => f σ x5
  | _, _ => none
theorem glr_X11_mutineers_7 {ρ : Type} (f : zH → Int32 → Int32 → Int32 → Int32 → Int32 → Option ρ) (σ : zH) (x1 : Int32) (x2 : Int32) (x3 : Int32) (x4 : Int32) (x5 : Int32) (y6 : zAV) (y7 : zAV) (y8 : zAV) : gl_X11_mutineers_7 f σ [vR 11 0, vI x1, vI x2, vI x3, vI x4, vI x5, y6, y7, y8] [] = f σ x1 x2 x3 x4 x5 := rfl
theorem glr_X11_mutineers_24 {ρ : Type} (f : zH → Int32 → Int32 → Int32 → Option ρ) (σ : zH) (x1 : Int32) (x2 : Int32) (x4 : Int32) (y3 : zAV) (y5 : zAV) (y6 : zAV) (y7 : zAV) (y8 : zAV) : gl_X11_mutineers_24 f σ [vR 11 0, vI x1, vI x2, y3, vI x4, y5, y6, y7, y8] [] = f σ x1 x2 x4 := rfl
theorem glr_X11_mutineers_32 {ρ : Type} (f : zH → Int32 → Int32 → Int32 → Int32 → Option ρ) (σ : zH) (x1 : Int32) (x4 : Int32) (x5 : Int32) (x6 : Int32) (y2 : zAV) (y3 : zAV) (y7 : zAV) (y8 : zAV) : gl_X11_mutineers_32 f σ [vR 11 0, vI x1, y2, y3, vI x4, vI x5, vI x6, y7, y8] [] = f σ x1 x4 x5 x6 := rfl
theorem glr_X11_mutineers_51 {ρ : Type} (f : zH → Int32 → Int32 → Int32 → Int32 → Int32 → Int32 → Option ρ) (σ : zH) (x1 : Int32) (x4 : Int32) (x5 : Int32) (x6 : Int32) (x7 : Int32) (x8 : Int32) (y2 : zAV) (y3 : zAV) : gl_X11_mutineers_51 f σ [vR 11 0, vI x1, y2, y3, vI x4, vI x5, vI x6, vI x7, vI x8] [] = f σ x1 x4 x5 x6 x7 x8 := rfl
theorem glr_X11_mutineers_95 {ρ : Type} (f : zH → Int32 → Int32 → Int32 → Int32 → Int32 → Int32 → Option ρ) (σ : zH) (x1 : Int32) (x4 : Int32) (x6 : Int32) (x7 : Int32) (x8 : Int32) (xs0 : Int32) (y2 : zAV) (y3 : zAV) (y5 : zAV) : gl_X11_mutineers_95 f σ [vR 11 0, vI x1, y2, y3, vI x4, y5, vI x6, vI x7, vI x8] [vI xs0] = f σ x1 x4 x6 x7 x8 xs0 := rfl
theorem glr_X11_mutineers_96 {ρ : Type} (f : zH → Int32 → Int32 → Int32 → Int32 → Int32 → Int32 → Int32 → Option ρ) (σ : zH) (x1 : Int32) (x4 : Int32) (x6 : Int32) (x7 : Int32) (x8 : Int32) (xs0 : Int32) (xs1 : Int32) (y2 : zAV) (y3 : zAV) (y5 : zAV) : gl_X11_mutineers_96 f σ [vR 11 0, vI x1, y2, y3, vI x4, y5, vI x6, vI x7, vI x8] [vI xs1, vI xs0] = f σ x1 x4 x6 x7 x8 xs0 xs1 := rfl
theorem glr_X11_mutineers_105 {ρ : Type} (f : zH → Int32 → Int32 → Int32 → Int32 → Option ρ) (σ : zH) (x1 : Int32) (x4 : Int32) (x5 : Int32) (x6 : Int32) (y2 : zAV) (y3 : zAV) (y7 : zAV) (y8 : zAV) : gl_X11_mutineers_105 f σ [vR 11 0, vI x1, y2, y3, vI x4, vI x5, vI x6, y7, y8] [] = f σ x1 x4 x5 x6 := rfl
theorem glr_X11_mutineers_111 {ρ : Type} (f : zH → Int32 → Option ρ) (σ : zH) (x5 : Int32) (y1 : zAV) (y2 : zAV) (y3 : zAV) (y4 : zAV) (y6 : zAV) (y7 : zAV) (y8 : zAV) : gl_X11_mutineers_111 f σ [vR 11 0, y1, y2, y3, y4, vI x5, y6, y7, y8] [] = f σ x5 := rfl
theorem t_X11_mutineers_0 {G : Nat → zH → List zAV → List zAV → Option (zH × Int32)} (es : List zEnt) (σ : zH) (x1 : Int32) (x2 : Int32) (x3 : Int32) (x4 : Int32) (y5 : zAV) (y6 : zAV) (y7 : zAV) (y8 : zAV)  : zev cc_X11_mutineers G 0 krI (zE 0 (.aload_n 0) 1 :: es) σ [vR 11 0, vI x1, vI x2, vI x3, vI x4, y5, y6, y7, y8] [] = zev cc_X11_mutineers G 0 krI es σ [vR 11 0, vI x1, vI x2, vI x3, vI x4, y5, y6, y7, y8] [vR 11 0] := rfl
theorem t_X11_mutineers_4 {G : Nat → zH → List zAV → List zAV → Option (zH × Int32)} (es : List zEnt) (σ : zH) (x1 : Int32) (x2 : Int32) (x3 : Int32) (x4 : Int32) (y5 : zAV) (y6 : zAV) (y7 : zAV) (y8 : zAV) (w4 : Int32) : zev cc_X11_mutineers G 0 krI (zEk 4 (.iconst 0) 1 w4 :: zE 5 (.istore 5) 2 :: es) σ [vR 11 0, vI x1, vI x2, vI x3, vI x4, y5, y6, y7, y8] [] = zev cc_X11_mutineers G 0 krI es σ [vR 11 0, vI x1, vI x2, vI x3, vI x4, vI w4, y6, y7, y8] [] := rfl
theorem t_X11_mutineers_7 {G : Nat → zH → List zAV → List zAV → Option (zH × Int32)} (es : List zEnt) (σ : zH) (x1 : Int32) (x2 : Int32) (x3 : Int32) (x4 : Int32) (x5 : Int32) (y6 : zAV) (y7 : zAV) (y8 : zAV)  : zev cc_X11_mutineers G 0 krI (zE 7 (.iload 5) 2 :: zE 9 (.iload_n 3) 1 :: es) σ [vR 11 0, vI x1, vI x2, vI x3, vI x4, vI x5, y6, y7, y8] [] = zev cc_X11_mutineers G 0 krI es σ [vR 11 0, vI x1, vI x2, vI x3, vI x4, vI x5, y6, y7, y8] [vI x3, vI x5] := rfl
theorem t_X11_mutineers_13 {G : Nat → zH → List zAV → List zAV → Option (zH × Int32)} (es : List zEnt) (σ : zH) (x1 : Int32) (x2 : Int32) (x3 : Int32) (x4 : Int32) (x5 : Int32) (y6 : zAV) (y7 : zAV) (y8 : zAV)  : zev cc_X11_mutineers G 0 krI (zE 13 (.aload_n 0) 1 :: zE 14 (.iload_n 1) 1 :: es) σ [vR 11 0, vI x1, vI x2, vI x3, vI x4, vI x5, y6, y7, y8] [] = zev cc_X11_mutineers G 0 krI es σ [vR 11 0, vI x1, vI x2, vI x3, vI x4, vI x5, y6, y7, y8] [vI x1, vR 11 0] := rfl
theorem t_X11_mutineers_18 {G : Nat → zH → List zAV → List zAV → Option (zH × Int32)} (es : List zEnt) (σ : zH) (x1 : Int32) (x2 : Int32) (x3 : Int32) (x4 : Int32) (x5 : Int32) (y6 : zAV) (y7 : zAV) (y8 : zAV) (w18 : Int32) : zev cc_X11_mutineers G 0 krI (zEk 18 (.iinc 5 1) 3 w18 :: es) σ [vR 11 0, vI x1, vI x2, vI x3, vI x4, vI x5, y6, y7, y8] [] = zev cc_X11_mutineers G 0 krI es σ [vR 11 0, vI x1, vI x2, vI x3, vI x4, vI (x5 + w18), y6, y7, y8] [] := rfl
theorem t_X11_mutineers_24 {G : Nat → zH → List zAV → List zAV → Option (zH × Int32)} (es : List zEnt) (σ : zH) (x1 : Int32) (x2 : Int32) (x4 : Int32) (y3 : zAV) (y5 : zAV) (y6 : zAV) (y7 : zAV) (y8 : zAV) (w24 : Int32) (w29 : Int32) : zev cc_X11_mutineers G 0 krI (zEk 24 (.iconst 1) 1 w24 :: zE 25 (.iload_n 2) 1 :: zE 26 .ishl 1 :: zE 27 (.istore 5) 2 :: zEk 29 (.iconst 0) 1 w29 :: zE 30 (.istore 6) 2 :: es) σ [vR 11 0, vI x1, vI x2, y3, vI x4, y5, y6, y7, y8] [] = zev cc_X11_mutineers G 0 krI es σ [vR 11 0, vI x1, vI x2, y3, vI x4, vI (w24 <<< (x2 &&& 31)), vI w29, y7, y8] [] := rfl
theorem t_X11_mutineers_32 {G : Nat → zH → List zAV → List zAV → Option (zH × Int32)} (es : List zEnt) (σ : zH) (x1 : Int32) (x4 : Int32) (x5 : Int32) (x6 : Int32) (y2 : zAV) (y3 : zAV) (y7 : zAV) (y8 : zAV)  : zev cc_X11_mutineers G 0 krI (zE 32 (.iload 6) 2 :: zE 34 (.iload 4) 2 :: es) σ [vR 11 0, vI x1, y2, y3, vI x4, vI x5, vI x6, y7, y8] [] = zev cc_X11_mutineers G 0 krI es σ [vR 11 0, vI x1, y2, y3, vI x4, vI x5, vI x6, y7, y8] [vI x4, vI x6] := rfl
theorem t_X11_mutineers_39 {G : Nat → zH → List zAV → List zAV → Option (zH × Int32)} (es : List zEnt) (σ : zH) (x1 : Int32) (x4 : Int32) (x5 : Int32) (x6 : Int32) (y2 : zAV) (y3 : zAV) (y7 : zAV) (y8 : zAV)  : zev cc_X11_mutineers G 0 krI (zE 39 (.aload_n 0) 1 :: zE 40 (.iload_n 1) 1 :: es) σ [vR 11 0, vI x1, y2, y3, vI x4, vI x5, vI x6, y7, y8] [] = zev cc_X11_mutineers G 0 krI es σ [vR 11 0, vI x1, y2, y3, vI x4, vI x5, vI x6, y7, y8] [vI x1, vR 11 0] := rfl
theorem t_X11_mutineers_44 {G : Nat → zH → List zAV → List zAV → Option (zH × Int32)} (es : List zEnt) (σ : zH) (x1 : Int32) (x4 : Int32) (x5 : Int32) (x6 : Int32) (y2 : zAV) (y3 : zAV) (y7 : zAV) (y8 : zAV) (w48 : Int32) : zev cc_X11_mutineers G 0 krI (zE 44 (.iload 5) 2 :: zE 46 (.istore 7) 2 :: zEk 48 (.iconst 0) 1 w48 :: zE 49 (.istore 8) 2 :: es) σ [vR 11 0, vI x1, y2, y3, vI x4, vI x5, vI x6, y7, y8] [] = zev cc_X11_mutineers G 0 krI es σ [vR 11 0, vI x1, y2, y3, vI x4, vI x5, vI x6, vI x5, vI w48] [] := rfl
theorem t_X11_mutineers_51 {G : Nat → zH → List zAV → List zAV → Option (zH × Int32)} (es : List zEnt) (σ : zH) (x1 : Int32) (x4 : Int32) (x5 : Int32) (x6 : Int32) (x7 : Int32) (x8 : Int32) (y2 : zAV) (y3 : zAV) (w57 : Int32) : zev cc_X11_mutineers G 0 krI (zE 51 (.iload 8) 2 :: zE 53 (.aload_n 0) 1 :: zEf 54 (.getfield 7) 3 11 1 149 (2, 42, 0) :: zEk 57 (.iconst 0) 1 w57 :: es) σ [vR 11 0, vI x1, y2, y3, vI x4, vI x5, vI x6, vI x7, vI x8] [] = zev cc_X11_mutineers G 0 krI es σ [vR 11 0, vI x1, y2, y3, vI x4, vI x5, vI x6, vI x7, vI x8] [vI w57, vR 42 0, vI x8] := rfl
theorem t_X11_mutineers_62 {G : Nat → zH → List zAV → List zAV → Option (zH × Int32)} (es : List zEnt) (σ : zH) (x1 : Int32) (x4 : Int32) (x5 : Int32) (x6 : Int32) (x7 : Int32) (x8 : Int32) (y2 : zAV) (y3 : zAV)  : zev cc_X11_mutineers G 0 krI (zE 62 (.iload 5) 2 :: zE 64 (.iload 7) 2 :: zE 66 (.iload 8) 2 :: es) σ [vR 11 0, vI x1, y2, y3, vI x4, vI x5, vI x6, vI x7, vI x8] [] = zev cc_X11_mutineers G 0 krI es σ [vR 11 0, vI x1, y2, y3, vI x4, vI x5, vI x6, vI x7, vI x8] [vI x8, vI x7, vI x5] := rfl
theorem t_X11_mutineers_74 {G : Nat → zH → List zAV → List zAV → Option (zH × Int32)} (es : List zEnt) (σ : zH) (x1 : Int32) (x4 : Int32) (x5 : Int32) (x6 : Int32) (x7 : Int32) (x8 : Int32) (xs0 : Int32) (y2 : zAV) (y3 : zAV)  : zev cc_X11_mutineers G 0 krI (zE 74 (.aload_n 0) 1 :: zEf 75 (.getfield 70) 3 11 21 169 (2, 62, 0) :: zE 78 (.iload 8) 2 :: es) σ [vR 11 0, vI x1, y2, y3, vI x4, vI x5, vI x6, vI x7, vI x8] [vI xs0] = zev cc_X11_mutineers G 0 krI es σ [vR 11 0, vI x1, y2, y3, vI x4, vI x5, vI x6, vI x7, vI x8] [vI x8, vR 62 0, vI xs0] := rfl
theorem t_X11_mutineers_84 {G : Nat → zH → List zAV → List zAV → Option (zH × Int32)} (es : List zEnt) (σ : zH) (x1 : Int32) (x4 : Int32) (x5 : Int32) (x6 : Int32) (x7 : Int32) (x8 : Int32) (xs0 : Int32) (y2 : zAV) (y3 : zAV)  : zev cc_X11_mutineers G 0 krI (zE 84 (.aload_n 0) 1 :: zE 85 (.iload 8) 2 :: zE 87 (.iload 5) 2 :: es) σ [vR 11 0, vI x1, y2, y3, vI x4, vI x5, vI x6, vI x7, vI x8] [vI xs0] = zev cc_X11_mutineers G 0 krI es σ [vR 11 0, vI x1, y2, y3, vI x4, vI x5, vI x6, vI x7, vI x8] [vI x5, vI x8, vR 11 0, vI xs0] := rfl
theorem t_X11_mutineers_95 {G : Nat → zH → List zAV → List zAV → Option (zH × Int32)} (es : List zEnt) (σ : zH) (x1 : Int32) (x4 : Int32) (x6 : Int32) (x7 : Int32) (x8 : Int32) (xs0 : Int32) (y2 : zAV) (y3 : zAV) (y5 : zAV) (w95 : Int32) : zev cc_X11_mutineers G 0 krI (zEk 95 (.iconst 0) 1 w95 :: es) σ [vR 11 0, vI x1, y2, y3, vI x4, y5, vI x6, vI x7, vI x8] [vI xs0] = zev cc_X11_mutineers G 0 krI es σ [vR 11 0, vI x1, y2, y3, vI x4, y5, vI x6, vI x7, vI x8] [vI w95, vI xs0] := rfl
theorem t_X11_mutineers_96 {G : Nat → zH → List zAV → List zAV → Option (zH × Int32)} (es : List zEnt) (σ : zH) (x1 : Int32) (x4 : Int32) (x6 : Int32) (x7 : Int32) (x8 : Int32) (xs0 : Int32) (xs1 : Int32) (y2 : zAV) (y3 : zAV) (y5 : zAV) (w99 : Int32) : zev cc_X11_mutineers G 0 krI (zE 96 .ior 1 :: zE 97 (.istore 5) 2 :: zEk 99 (.iinc 8 1) 3 w99 :: es) σ [vR 11 0, vI x1, y2, y3, vI x4, y5, vI x6, vI x7, vI x8] [vI xs1, vI xs0] = zev cc_X11_mutineers G 0 krI es σ [vR 11 0, vI x1, y2, y3, vI x4, vI (xs0 ||| xs1), vI x6, vI x7, vI (x8 + w99)] [] := rfl
theorem t_X11_mutineers_105 {G : Nat → zH → List zAV → List zAV → Option (zH × Int32)} (es : List zEnt) (σ : zH) (x1 : Int32) (x4 : Int32) (x5 : Int32) (x6 : Int32) (y2 : zAV) (y3 : zAV) (y7 : zAV) (y8 : zAV) (w105 : Int32) : zev cc_X11_mutineers G 0 krI (zEk 105 (.iinc 6 1) 3 w105 :: es) σ [vR 11 0, vI x1, y2, y3, vI x4, vI x5, vI x6, y7, y8] [] = zev cc_X11_mutineers G 0 krI es σ [vR 11 0, vI x1, y2, y3, vI x4, vI x5, vI (x6 + w105), y7, y8] [] := rfl
theorem t_X11_mutineers_111 {G : Nat → zH → List zAV → List zAV → Option (zH × Int32)} (es : List zEnt) (σ : zH) (x5 : Int32) (y1 : zAV) (y2 : zAV) (y3 : zAV) (y4 : zAV) (y6 : zAV) (y7 : zAV) (y8 : zAV)  : zev cc_X11_mutineers G 0 krI (zE 111 (.aload_n 0) 1 :: es) σ [vR 11 0, y1, y2, y3, y4, vI x5, y6, y7, y8] [] = zev cc_X11_mutineers G 0 krI es σ [vR 11 0, y1, y2, y3, y4, vI x5, y6, y7, y8] [vR 11 0] := rfl
theorem t_X11_mutineers_115 {G : Nat → zH → List zAV → List zAV → Option (zH × Int32)} (es : List zEnt) (σ : zH) (x5 : Int32) (y1 : zAV) (y2 : zAV) (y3 : zAV) (y4 : zAV) (y6 : zAV) (y7 : zAV) (y8 : zAV)  : zev cc_X11_mutineers G 0 krI (zE 115 (.aload_n 0) 1 :: zE 116 (.iload 5) 2 :: es) σ [vR 11 0, y1, y2, y3, y4, vI x5, y6, y7, y8] [] = zev cc_X11_mutineers G 0 krI es σ [vR 11 0, y1, y2, y3, y4, vI x5, y6, y7, y8] [vI x5, vR 11 0] := rfl
noncomputable def k_X11_mutineers_7 (c24 : zH → Int32 → Int32 → Int32 → Option (zH × Int32)) : Nat → zH → Int32 → Int32 → Int32 → Int32 → Int32 → Option (zH × Int32)
  | 0, _, _, _, _, _, _ => none
  | n + 1, σ, x1, x2, x3, x4, x5 =>
    if x5 < x3 then
      (d_X11_quarter σ x1).bind fun σ1 =>
      (k_X11_mutineers_7 c24 n) σ1 x1 x2 x3 x4 (x5 + (1 : Int32))
    else
      c24 σ x1 x2 x4
theorem e_X11_mutineers_7 (c24 : zH → Int32 → Int32 → Int32 → Option (zH × Int32)) (n : Nat) (σ : zH) (x1 : Int32) (x2 : Int32) (x3 : Int32) (x4 : Int32) (x5 : Int32) (y6 : zAV) (y7 : zAV) (y8 : zAV) : k_X11_mutineers_7 c24 (n + 1) σ x1 x2 x3 x4 x5 = zin cc_X11_mutineers (fun t => if t = 7 then some (gl_X11_mutineers_7 (k_X11_mutineers_7 c24 n)) else if t = 24 then some (gl_X11_mutineers_24 c24) else none) 0 krI b_X11_mutineers 7 σ [vR 11 0, vI x1, vI x2, vI x3, vI x4, vI x5, y6, y7, y8] [] := by
  rw [k_X11_mutineers_7]
  refine Eq.symm ((zin_b (es := q_X11_mutineers_7) rfl).trans ?_)
  refine (t_X11_mutineers_7 _ _ _ _ _ _ _ _ _ _).trans ?_
  refine x_icmp.trans (pif_ge ?_ ?_)
  · exact (zrun_c rfl).trans (glr_X11_mutineers_24 _ _ _ _ _ _ _ _ _ _)
  · refine (t_X11_mutineers_13 _ _ _ _ _ _ _ _ _ _).trans ?_
    refine (x_callV rfl rfl rfl rfl).trans ((cl_X11_mutineers_X11_quarter _ _ _).trans ((gr_X11_quarter _ _ _).trans (pbd fun _ => ?_)))
    refine (t_X11_mutineers_18 _ _ _ _ _ _ _ _ _ _ _).trans ?_
    refine x_goto.trans ?_
    exact (zrun_c rfl).trans (glr_X11_mutineers_7 _ _ _ _ _ _ _ _ _ _)
theorem s_X11_mutineers_7 {X : zX} (hX : zHX X) {c24 : zH → Int32 → Int32 → Int32 → Option (zH × Int32)} (h24 : ∀ σ L st r, gl_X11_mutineers_24 c24 σ L st = some r → zGW X 195 krI 24 σ L st r) : ∀ n σ L st r, gl_X11_mutineers_7 (k_X11_mutineers_7 c24 n) σ L st = some r → zGW X 195 krI 7 σ L st r := by
  intro n
  induction n with
  | zero =>
    intro σ L st r h
    unfold gl_X11_mutineers_7 at h
    split at h <;> cases h
  | succ n ih =>
    intro σ L st r h
    unfold gl_X11_mutineers_7 at h
    split at h
    · exact zin_ok (hy_X11_mutineers hX) bk_X11_mutineers (fun t f hf => by
      by_cases e7 : t = 7
      · rw [if_pos e7] at hf; subst e7; cases hf; exact ih
      rw [if_neg e7] at hf
      by_cases e24 : t = 24
      · rw [if_pos e24] at hf; subst e24; cases hf; exact h24
      rw [if_neg e24] at hf
      cases hf) ((e_X11_mutineers_7 _ _ _ _ _ _ _ _ _ _ _).symm.trans h)
    · cases h
noncomputable def j_X11_mutineers_96 (c51 : zH → Int32 → Int32 → Int32 → Int32 → Int32 → Int32 → Option (zH × Int32)) (σ : zH) (x1 : Int32) (x4 : Int32) (x6 : Int32) (x7 : Int32) (x8 : Int32) (xs0 : Int32) (xs1 : Int32) : Option (zH × Int32) :=
  c51 σ x1 x4 (xs0 ||| xs1) x6 x7 (x8 + (1 : Int32))
theorem e_X11_mutineers_96 (c51 : zH → Int32 → Int32 → Int32 → Int32 → Int32 → Int32 → Option (zH × Int32)) (σ : zH) (x1 : Int32) (x4 : Int32) (x6 : Int32) (x7 : Int32) (x8 : Int32) (xs0 : Int32) (xs1 : Int32) (y2 : zAV) (y3 : zAV) (y5 : zAV) : j_X11_mutineers_96 c51 σ x1 x4 x6 x7 x8 xs0 xs1 = zin cc_X11_mutineers (fun t => if t = 51 then some (gl_X11_mutineers_51 c51) else none) 0 krI b_X11_mutineers 96 σ [vR 11 0, vI x1, y2, y3, vI x4, y5, vI x6, vI x7, vI x8] [vI xs1, vI xs0] := by
  unfold j_X11_mutineers_96
  refine Eq.symm ((zin_b (es := q_X11_mutineers_96) rfl).trans ?_)
  refine (t_X11_mutineers_96 _ _ _ _ _ _ _ _ _ _ _ _ _).trans ?_
  refine x_goto.trans ?_
  exact (zrun_c rfl).trans (glr_X11_mutineers_51 _ _ _ _ _ _ _ _ _ _)
theorem s_X11_mutineers_96 {X : zX} (hX : zHX X) {c51 : zH → Int32 → Int32 → Int32 → Int32 → Int32 → Int32 → Option (zH × Int32)} (h51 : ∀ σ L st r, gl_X11_mutineers_51 c51 σ L st = some r → zGW X 195 krI 51 σ L st r) : ∀ σ L st r, gl_X11_mutineers_96 (j_X11_mutineers_96 c51) σ L st = some r → zGW X 195 krI 96 σ L st r := by
  intro σ L st r h
  unfold gl_X11_mutineers_96 at h
  split at h
  · exact zin_ok (hy_X11_mutineers hX) bk_X11_mutineers (fun t f hf => by
    by_cases e51 : t = 51
    · rw [if_pos e51] at hf; subst e51; cases hf; exact h51
    rw [if_neg e51] at hf
    cases hf) ((e_X11_mutineers_96 _ _ _ _ _ _ _ _ _ _ _ _).symm.trans h)
  · cases h
noncomputable def j_X11_mutineers_95 (c51 : zH → Int32 → Int32 → Int32 → Int32 → Int32 → Int32 → Option (zH × Int32)) (σ : zH) (x1 : Int32) (x4 : Int32) (x6 : Int32) (x7 : Int32) (x8 : Int32) (xs0 : Int32) : Option (zH × Int32) :=
  (j_X11_mutineers_96 c51) σ x1 x4 x6 x7 x8 xs0 (0 : Int32)
theorem e_X11_mutineers_95 (c51 : zH → Int32 → Int32 → Int32 → Int32 → Int32 → Int32 → Option (zH × Int32)) (σ : zH) (x1 : Int32) (x4 : Int32) (x6 : Int32) (x7 : Int32) (x8 : Int32) (xs0 : Int32) (y2 : zAV) (y3 : zAV) (y5 : zAV) : j_X11_mutineers_95 c51 σ x1 x4 x6 x7 x8 xs0 = zin cc_X11_mutineers (fun t => if t = 96 then some (gl_X11_mutineers_96 (j_X11_mutineers_96 c51)) else none) 0 krI b_X11_mutineers 95 σ [vR 11 0, vI x1, y2, y3, vI x4, y5, vI x6, vI x7, vI x8] [vI xs0] := by
  unfold j_X11_mutineers_95
  refine Eq.symm ((zin_b (es := q_X11_mutineers_95) rfl).trans ?_)
  refine (t_X11_mutineers_95 _ _ _ _ _ _ _ _ _ _ _ _).trans ?_
  refine x_cut.trans ?_
  exact (zrun_c rfl).trans (glr_X11_mutineers_96 _ _ _ _ _ _ _ _ _ _ _ _)
theorem s_X11_mutineers_95 {X : zX} (hX : zHX X) {c51 : zH → Int32 → Int32 → Int32 → Int32 → Int32 → Int32 → Option (zH × Int32)} (h51 : ∀ σ L st r, gl_X11_mutineers_51 c51 σ L st = some r → zGW X 195 krI 51 σ L st r) : ∀ σ L st r, gl_X11_mutineers_95 (j_X11_mutineers_95 c51) σ L st = some r → zGW X 195 krI 95 σ L st r := by
  intro σ L st r h
  unfold gl_X11_mutineers_95 at h
  split at h
  · exact zin_ok (hy_X11_mutineers hX) bk_X11_mutineers (fun t f hf => by
    by_cases e96 : t = 96
    · rw [if_pos e96] at hf; subst e96; cases hf; exact (s_X11_mutineers_96 hX h51)
    rw [if_neg e96] at hf
    cases hf) ((e_X11_mutineers_95 _ _ _ _ _ _ _ _ _ _ _).symm.trans h)
  · cases h
noncomputable def k_X11_mutineers_51 (c105 : zH → Int32 → Int32 → Int32 → Int32 → Option (zH × Int32)) : Nat → zH → Int32 → Int32 → Int32 → Int32 → Int32 → Int32 → Option (zH × Int32)
  | 0, _, _, _, _, _, _, _ => none
  | n + 1, σ, x1, x4, x5, x6, x7, x8 =>
    if x8 < (σ.1 42 0 0) then
      (d_X11_has σ x7 x8).bind fun p1 =>
      if p1.2 = 0 then
        (j_X11_mutineers_95 (k_X11_mutineers_51 c105 n)) p1.1 x1 x4 x6 x7 x8 x5
      else
        ix x8 12 fun j2 =>
        if (p1.1.1 62 0 j2) = 0 then
          (d_X11_wonBy p1.1 x8 x5).bind fun p3 =>
          (j_X11_mutineers_96 (k_X11_mutineers_51 c105 n)) p3.1 x1 x4 x6 x7 x8 x5 p3.2
        else
          (j_X11_mutineers_95 (k_X11_mutineers_51 c105 n)) p1.1 x1 x4 x6 x7 x8 x5
    else
      c105 σ x1 x4 x5 x6
theorem e_X11_mutineers_51 (c105 : zH → Int32 → Int32 → Int32 → Int32 → Option (zH × Int32)) (n : Nat) (σ : zH) (x1 : Int32) (x4 : Int32) (x5 : Int32) (x6 : Int32) (x7 : Int32) (x8 : Int32) (y2 : zAV) (y3 : zAV) : k_X11_mutineers_51 c105 (n + 1) σ x1 x4 x5 x6 x7 x8 = zin cc_X11_mutineers (fun t => if t = 95 then some (gl_X11_mutineers_95 (j_X11_mutineers_95 (k_X11_mutineers_51 c105 n))) else if t = 96 then some (gl_X11_mutineers_96 (j_X11_mutineers_96 (k_X11_mutineers_51 c105 n))) else if t = 105 then some (gl_X11_mutineers_105 c105) else none) 0 krI b_X11_mutineers 51 σ [vR 11 0, vI x1, y2, y3, vI x4, vI x5, vI x6, vI x7, vI x8] [] := by
  rw [k_X11_mutineers_51]
  refine Eq.symm ((zin_b (es := q_X11_mutineers_51) rfl).trans ?_)
  refine (t_X11_mutineers_51 _ _ _ _ _ _ _ _ _ _ _).trans ?_
  refine ((x_iald (N := 11) rfl rfl).trans (ix_l 0 (by decide +kernel))).trans ?_
  refine x_icmp.trans (pif_ge ?_ ?_)
  · exact (zrun_c rfl).trans (glr_X11_mutineers_105 _ _ _ _ _ _ _ _ _ _)
  · refine (t_X11_mutineers_62 _ _ _ _ _ _ _ _ _ _).trans ?_
    refine (x_callS rfl rfl rfl rfl).trans ((cl_X11_mutineers_X11_has _ _ _).trans ((gr_X11_has _ _ _ _).trans (pbd fun _ => ?_)))
    refine x_if.trans (pif_eq ?_ ?_)
    · exact (zrun_c rfl).trans (glr_X11_mutineers_95 _ _ _ _ _ _ _ _ _ _ _)
    · refine (t_X11_mutineers_74 _ _ _ _ _ _ _ _ _ _ _).trans ?_
      refine (x_iald (N := 12) rfl rfl).trans (pix fun _ => ?_)
      refine x_if.trans (pif_ne ?_ ?_)
      · exact (zrun_c rfl).trans (glr_X11_mutineers_95 _ _ _ _ _ _ _ _ _ _ _)
      · refine (t_X11_mutineers_84 _ _ _ _ _ _ _ _ _ _ _).trans ?_
        refine (x_callV rfl rfl rfl rfl).trans ((cl_X11_mutineers_X11_wonBy _ _ _).trans ((gr_X11_wonBy _ _ _ _).trans (pbd fun _ => ?_)))
        refine x_goto.trans ?_
        exact (zrun_c rfl).trans (glr_X11_mutineers_96 _ _ _ _ _ _ _ _ _ _ _ _)
theorem s_X11_mutineers_51 {X : zX} (hX : zHX X) {c105 : zH → Int32 → Int32 → Int32 → Int32 → Option (zH × Int32)} (h105 : ∀ σ L st r, gl_X11_mutineers_105 c105 σ L st = some r → zGW X 195 krI 105 σ L st r) : ∀ n σ L st r, gl_X11_mutineers_51 (k_X11_mutineers_51 c105 n) σ L st = some r → zGW X 195 krI 51 σ L st r := by
  intro n
  induction n with
  | zero =>
    intro σ L st r h
    unfold gl_X11_mutineers_51 at h
    split at h <;> cases h
  | succ n ih =>
    intro σ L st r h
    unfold gl_X11_mutineers_51 at h
    split at h
    · exact zin_ok (hy_X11_mutineers hX) bk_X11_mutineers (fun t f hf => by
      by_cases e95 : t = 95
      · rw [if_pos e95] at hf; subst e95; cases hf; exact (s_X11_mutineers_95 hX ih)
      rw [if_neg e95] at hf
      by_cases e96 : t = 96
      · rw [if_pos e96] at hf; subst e96; cases hf; exact (s_X11_mutineers_96 hX ih)
      rw [if_neg e96] at hf
      by_cases e105 : t = 105
      · rw [if_pos e105] at hf; subst e105; cases hf; exact h105
      rw [if_neg e105] at hf
      cases hf) ((e_X11_mutineers_51 _ _ _ _ _ _ _ _ _ _ _).symm.trans h)
    · cases h
noncomputable def j_X11_mutineers_105 (c32 : zH → Int32 → Int32 → Int32 → Int32 → Option (zH × Int32)) (σ : zH) (x1 : Int32) (x4 : Int32) (x5 : Int32) (x6 : Int32) : Option (zH × Int32) :=
  c32 σ x1 x4 x5 (x6 + (1 : Int32))
theorem e_X11_mutineers_105 (c32 : zH → Int32 → Int32 → Int32 → Int32 → Option (zH × Int32)) (σ : zH) (x1 : Int32) (x4 : Int32) (x5 : Int32) (x6 : Int32) (y2 : zAV) (y3 : zAV) (y7 : zAV) (y8 : zAV) : j_X11_mutineers_105 c32 σ x1 x4 x5 x6 = zin cc_X11_mutineers (fun t => if t = 32 then some (gl_X11_mutineers_32 c32) else none) 0 krI b_X11_mutineers 105 σ [vR 11 0, vI x1, y2, y3, vI x4, vI x5, vI x6, y7, y8] [] := by
  unfold j_X11_mutineers_105
  refine Eq.symm ((zin_b (es := q_X11_mutineers_105) rfl).trans ?_)
  refine (t_X11_mutineers_105 _ _ _ _ _ _ _ _ _ _ _).trans ?_
  refine x_goto.trans ?_
  exact (zrun_c rfl).trans (glr_X11_mutineers_32 _ _ _ _ _ _ _ _ _ _)
theorem s_X11_mutineers_105 {X : zX} (hX : zHX X) {c32 : zH → Int32 → Int32 → Int32 → Int32 → Option (zH × Int32)} (h32 : ∀ σ L st r, gl_X11_mutineers_32 c32 σ L st = some r → zGW X 195 krI 32 σ L st r) : ∀ σ L st r, gl_X11_mutineers_105 (j_X11_mutineers_105 c32) σ L st = some r → zGW X 195 krI 105 σ L st r := by
  intro σ L st r h
  unfold gl_X11_mutineers_105 at h
  split at h
  · exact zin_ok (hy_X11_mutineers hX) bk_X11_mutineers (fun t f hf => by
    by_cases e32 : t = 32
    · rw [if_pos e32] at hf; subst e32; cases hf; exact h32
    rw [if_neg e32] at hf
    cases hf) ((e_X11_mutineers_105 _ _ _ _ _ _ _ _ _ _).symm.trans h)
  · cases h
noncomputable def k_X11_mutineers_32 (c111 : zH → Int32 → Option (zH × Int32)) : Nat → zH → Int32 → Int32 → Int32 → Int32 → Option (zH × Int32)
  | 0, _, _, _, _, _ => none
  | n + 1, σ, x1, x4, x5, x6 =>
    if x6 < x4 then
      (d_X11_quarter σ x1).bind fun σ1 =>
      (k_X11_mutineers_51 (j_X11_mutineers_105 (k_X11_mutineers_32 c111 n)) zN) σ1 x1 x4 x5 x6 x5 (0 : Int32)
    else
      c111 σ x5
theorem e_X11_mutineers_32 (c111 : zH → Int32 → Option (zH × Int32)) (n : Nat) (σ : zH) (x1 : Int32) (x4 : Int32) (x5 : Int32) (x6 : Int32) (y2 : zAV) (y3 : zAV) (y7 : zAV) (y8 : zAV) : k_X11_mutineers_32 c111 (n + 1) σ x1 x4 x5 x6 = zin cc_X11_mutineers (fun t => if t = 51 then some (gl_X11_mutineers_51 (k_X11_mutineers_51 (j_X11_mutineers_105 (k_X11_mutineers_32 c111 n)) zN)) else if t = 111 then some (gl_X11_mutineers_111 c111) else none) 0 krI b_X11_mutineers 32 σ [vR 11 0, vI x1, y2, y3, vI x4, vI x5, vI x6, y7, y8] [] := by
  rw [k_X11_mutineers_32]
  refine Eq.symm ((zin_b (es := q_X11_mutineers_32) rfl).trans ?_)
  refine (t_X11_mutineers_32 _ _ _ _ _ _ _ _ _ _).trans ?_
  refine x_icmp.trans (pif_ge ?_ ?_)
  · exact (zrun_c rfl).trans (glr_X11_mutineers_111 _ _ _ _ _ _ _ _ _ _)
  · refine (t_X11_mutineers_39 _ _ _ _ _ _ _ _ _ _).trans ?_
    refine (x_callV rfl rfl rfl rfl).trans ((cl_X11_mutineers_X11_quarter _ _ _).trans ((gr_X11_quarter _ _ _).trans (pbd fun _ => ?_)))
    refine (t_X11_mutineers_44 _ _ _ _ _ _ _ _ _ _ _).trans ?_
    refine x_cut.trans ?_
    exact (zrun_c rfl).trans (glr_X11_mutineers_51 _ _ _ _ _ _ _ _ _ _)
theorem s_X11_mutineers_32 {X : zX} (hX : zHX X) {c111 : zH → Int32 → Option (zH × Int32)} (h111 : ∀ σ L st r, gl_X11_mutineers_111 c111 σ L st = some r → zGW X 195 krI 111 σ L st r) : ∀ n σ L st r, gl_X11_mutineers_32 (k_X11_mutineers_32 c111 n) σ L st = some r → zGW X 195 krI 32 σ L st r := by
  intro n
  induction n with
  | zero =>
    intro σ L st r h
    unfold gl_X11_mutineers_32 at h
    split at h <;> cases h
  | succ n ih =>
    intro σ L st r h
    unfold gl_X11_mutineers_32 at h
    split at h
    · exact zin_ok (hy_X11_mutineers hX) bk_X11_mutineers (fun t f hf => by
      by_cases e51 : t = 51
      · rw [if_pos e51] at hf; subst e51; cases hf; exact ((fun σ L st r h => s_X11_mutineers_51 hX (s_X11_mutineers_105 hX ih) zN σ L st r h))
      rw [if_neg e51] at hf
      by_cases e111 : t = 111
      · rw [if_pos e111] at hf; subst e111; cases hf; exact h111
      rw [if_neg e111] at hf
      cases hf) ((e_X11_mutineers_32 _ _ _ _ _ _ _ _ _ _ _).symm.trans h)
    · cases h
noncomputable def j_X11_mutineers_111  (σ : zH) (x5 : Int32) : Option (zH × Int32) :=
  (d_X11_laysBack σ).bind fun σ1 =>
  (d_X11_menOf σ1 x5).bind fun p2 =>
  some (p2.1, p2.2)
theorem e_X11_mutineers_111  (σ : zH) (x5 : Int32) (y1 : zAV) (y2 : zAV) (y3 : zAV) (y4 : zAV) (y6 : zAV) (y7 : zAV) (y8 : zAV) : j_X11_mutineers_111 σ x5 = zin cc_X11_mutineers (fun t => none) 0 krI b_X11_mutineers 111 σ [vR 11 0, y1, y2, y3, y4, vI x5, y6, y7, y8] [] := by
  unfold j_X11_mutineers_111
  refine Eq.symm ((zin_b (es := q_X11_mutineers_111) rfl).trans ?_)
  refine (t_X11_mutineers_111 _ _ _ _ _ _ _ _ _ _).trans ?_
  refine (x_callV rfl rfl rfl rfl).trans ((cl_X11_mutineers_X11_laysBack _ _ _).trans ((gr_X11_laysBack _ _).trans (pbd fun _ => ?_)))
  refine (t_X11_mutineers_115 _ _ _ _ _ _ _ _ _ _).trans ?_
  refine (x_callV rfl rfl rfl rfl).trans ((cl_X11_mutineers_X11_menOf _ _ _).trans ((gr_X11_menOf _ _ _).trans (pbd fun _ => ?_)))
  exact x_iret
theorem s_X11_mutineers_111 {X : zX} (hX : zHX X)   : ∀ σ L st r, gl_X11_mutineers_111 j_X11_mutineers_111 σ L st = some r → zGW X 195 krI 111 σ L st r := by
  intro σ L st r h
  unfold gl_X11_mutineers_111 at h
  split at h
  · exact zin_ok (hy_X11_mutineers hX) bk_X11_mutineers (fun t f hf => by
    cases hf) ((e_X11_mutineers_111 _ _ _ _ _ _ _ _ _).symm.trans h)
  · cases h
noncomputable def j_X11_mutineers_24  (σ : zH) (x1 : Int32) (x2 : Int32) (x4 : Int32) : Option (zH × Int32) :=
  (k_X11_mutineers_32 j_X11_mutineers_111 zN) σ x1 x4 ((1 : Int32) <<< (x2 &&& 31)) (0 : Int32)
theorem e_X11_mutineers_24  (σ : zH) (x1 : Int32) (x2 : Int32) (x4 : Int32) (y3 : zAV) (y5 : zAV) (y6 : zAV) (y7 : zAV) (y8 : zAV) : j_X11_mutineers_24 σ x1 x2 x4 = zin cc_X11_mutineers (fun t => if t = 32 then some (gl_X11_mutineers_32 (k_X11_mutineers_32 j_X11_mutineers_111 zN)) else none) 0 krI b_X11_mutineers 24 σ [vR 11 0, vI x1, vI x2, y3, vI x4, y5, y6, y7, y8] [] := by
  unfold j_X11_mutineers_24
  refine Eq.symm ((zin_b (es := q_X11_mutineers_24) rfl).trans ?_)
  refine (t_X11_mutineers_24 _ _ _ _ _ _ _ _ _ _ _ _).trans ?_
  refine x_cut.trans ?_
  exact (zrun_c rfl).trans (glr_X11_mutineers_32 _ _ _ _ _ _ _ _ _ _)
theorem s_X11_mutineers_24 {X : zX} (hX : zHX X)   : ∀ σ L st r, gl_X11_mutineers_24 j_X11_mutineers_24 σ L st = some r → zGW X 195 krI 24 σ L st r := by
  intro σ L st r h
  unfold gl_X11_mutineers_24 at h
  split at h
  · exact zin_ok (hy_X11_mutineers hX) bk_X11_mutineers (fun t f hf => by
    by_cases e32 : t = 32
    · rw [if_pos e32] at hf; subst e32; cases hf; exact ((fun σ L st r h => s_X11_mutineers_32 hX (s_X11_mutineers_111 hX) zN σ L st r h))
    rw [if_neg e32] at hf
    cases hf) ((e_X11_mutineers_24 _ _ _ _ _ _ _ _ _).symm.trans h)
  · cases h
noncomputable def d_X11_mutineers (σ : zH) (xa1 : Int32) (xa2 : Int32) (xa3 : Int32) (xa4 : Int32) : Option (zH × Int32) :=
  (d_X11_keeps σ).bind fun σ1 =>
  (k_X11_mutineers_7 j_X11_mutineers_24 zN) σ1 xa1 xa2 xa3 xa4 (0 : Int32)
theorem e_X11_mutineers (σ : zH) (xa1 : Int32) (xa2 : Int32) (xa3 : Int32) (xa4 : Int32) : d_X11_mutineers σ xa1 xa2 xa3 xa4 = zin cc_X11_mutineers (fun t => if t = 7 then some (gl_X11_mutineers_7 (k_X11_mutineers_7 j_X11_mutineers_24 zN)) else none) 0 krI b_X11_mutineers 0 σ [vR 11 0, vI xa1, vI xa2, vI xa3, vI xa4, vU, vU, vU, vU] [] := by
  unfold d_X11_mutineers
  refine Eq.symm ((zin_b (es := q_X11_mutineers_0) rfl).trans ?_)
  refine (t_X11_mutineers_0 _ _ _ _ _ _ _ _ _ _).trans ?_
  refine (x_callV rfl rfl rfl rfl).trans ((cl_X11_mutineers_X11_keeps _ _ _).trans ((gr_X11_keeps _ _).trans (pbd fun _ => ?_)))
  refine (t_X11_mutineers_4 _ _ _ _ _ _ _ _ _ _ _).trans ?_
  refine x_cut.trans ?_
  exact (zrun_c rfl).trans (glr_X11_mutineers_7 _ _ _ _ _ _ _ _ _ _)
noncomputable def g_X11_mutineers {ρ : Type} (σ : zH) (av : List zAV) (q : zH → zAV → Option ρ) : Option ρ := match av with
  | [.inr (.inr (.inl (11, 0))), .inl xa1, .inl xa2, .inl xa3, .inl xa4] => (d_X11_mutineers σ xa1 xa2 xa3 xa4).bind fun p => q p.1 (vI p.2)
  | _ => none
theorem gr_X11_mutineers {ρ : Type} (σ : zH) (xa1 : Int32) (xa2 : Int32) (xa3 : Int32) (xa4 : Int32) (q : zH → zAV → Option ρ) : g_X11_mutineers σ [vR 11 0, vI xa1, vI xa2, vI xa3, vI xa4] q = (d_X11_mutineers σ xa1 xa2 xa3 xa4).bind fun p => q p.1 (vI p.2) := rfl
theorem c_X11_mutineers {ρ : Type} {X : zX} (hX : zHX X) {σ : zH} {av : List zAV} {q : zH → zAV → Option ρ} {r : ρ} (h : g_X11_mutineers σ av q = some r) (hv : ∀ a ∈ av, zval X a) : zcon X 195 σ av q r := by
  unfold g_X11_mutineers at h
  split at h
  · exact zcon_I (n := 195) (ml := 9) (rc := 0) (st := 0) (kd := 11) (np := 4) (by decide +kernel) (by decide) ⟨_, _, rfl, rfl⟩ (Nat.le_of_ble_eq_true rfl) hv h (fun y h1 => (zin_ok (hy_X11_mutineers hX) bk_X11_mutineers (fun t f hf => by
      by_cases e7 : t = 7
      · rw [if_pos e7] at hf; subst e7; cases hf; exact ((fun σ L st r h => s_X11_mutineers_7 hX (s_X11_mutineers_24 hX) zN σ L st r h))
      rw [if_neg e7] at hf
      cases hf) ((e_X11_mutineers _ _ _ _ _).symm.trans h1)))
  · cases h
/-! SleepWavesModel.mutiny(IIII)I -/
def q_X11_mutiny_42 : List zEnt := zEa 42 (.goto 12) 3 54 :: []
def q_X11_mutiny_41 : List zEnt := zEk 41 (.iconst (-1)) 1 (-1) :: q_X11_mutiny_42
def q_X11_mutiny_38 : List zEnt := zEa 38 (.ifCond .ne 7) 3 45 :: q_X11_mutiny_41
def q_X11_mutiny_35 : List zEnt := zEc 35 (.invokestatic 173) 3 125 3 129 0 :: q_X11_mutiny_38
def q_X11_mutiny_28 : List zEnt := zE 28 (.iload 4) 2 :: zE 30 .i2l 1 :: (31, (.lconst 0), 1, (0, 0, 0, 0), (0, 0, 0), 0, 0, []) :: (32, (.ldc2_w 421), 3, (0, 0, 1488, 0), (0, 0, 0), 0, 96, []) :: q_X11_mutiny_35
def q_X11_mutiny_25 : List zEnt := zEa 25 (.ifCond .eq 16) 3 41 :: q_X11_mutiny_28
def q_X11_mutiny_22 : List zEnt := zEc 22 (.invokestatic 173) 3 125 3 129 0 :: q_X11_mutiny_25
def q_X11_mutiny_16 : List zEnt := zE 16 (.iload_n 3) 1 :: zE 17 .i2l 1 :: (18, (.lconst 0), 1, (0, 0, 0, 0), (0, 0, 0), 0, 0, []) :: (19, (.ldc2_w 421), 3, (0, 0, 1488, 0), (0, 0, 0), 0, 96, []) :: q_X11_mutiny_22
def q_X11_mutiny_13 : List zEnt := zEa 13 (.ifCond .eq 28) 3 41 :: q_X11_mutiny_16
def q_X11_mutiny_10 : List zEnt := zEc 10 (.invokevirtual 426) 3 127 2 167 0 :: q_X11_mutiny_13
def q_X11_mutiny_8 : List zEnt := zE 8 (.aload_n 0) 1 :: zE 9 (.iload_n 2) 1 :: q_X11_mutiny_10
def q_X11_mutiny_5 : List zEnt := zEa 5 (.ifCond .eq 36) 3 41 :: q_X11_mutiny_8
def q_X11_mutiny_2 : List zEnt := zEc 2 (.invokevirtual 418) 3 164 2 145 0 :: q_X11_mutiny_5
def q_X11_mutiny_0 : List zEnt := zE 0 (.aload_n 0) 1 :: zE 1 (.iload_n 1) 1 :: q_X11_mutiny_2
def q_X11_mutiny_54 : List zEnt := zE 54 .ireturn 1 :: []
def q_X11_mutiny_51 : List zEnt := zEc 51 (.invokevirtual 460) 3 195 5 173 0 :: q_X11_mutiny_54
def q_X11_mutiny_45 : List zEnt := zE 45 (.aload_n 0) 1 :: zE 46 (.iload_n 1) 1 :: zE 47 (.iload_n 2) 1 :: zE 48 (.iload_n 3) 1 :: zE 49 (.iload 4) 2 :: q_X11_mutiny_51
def b_X11_mutiny : List (Nat × List zEnt) := [(0, q_X11_mutiny_0), (41, q_X11_mutiny_41), (45, q_X11_mutiny_45), (54, q_X11_mutiny_54)]
theorem bk_X11_mutiny : zchB 196 b_X11_mutiny = true := by decide +kernel
noncomputable def cc_X11_mutiny {ρ : Type} : Nat → zH → List zAV → (zH → zAV → Option ρ) → Option ρ := fun n σ av q => if n = 164 then g_X11_isLaw σ av q else if n = 127 then g_X11_isCompany σ av q else if n = 125 then g_X11_in σ av q else if n = 195 then g_X11_mutineers σ av q else none
theorem cs_X11_mutiny {ρ : Type} {X : zX} (hX : zHX X) : zCS X (cc_X11_mutiny (ρ := ρ)) := by
  intro n σ av q r h hv
  unfold cc_X11_mutiny at h
  by_cases e_X11_isLaw : n = 164
  · rw [if_pos e_X11_isLaw] at h
    subst e_X11_isLaw
    exact c_X11_isLaw hX h hv
  rw [if_neg e_X11_isLaw] at h
  by_cases e_X11_isCompany : n = 127
  · rw [if_pos e_X11_isCompany] at h
    subst e_X11_isCompany
    exact c_X11_isCompany hX h hv
  rw [if_neg e_X11_isCompany] at h
  by_cases e_X11_in : n = 125
  · rw [if_pos e_X11_in] at h
    subst e_X11_in
    exact c_X11_in hX h hv
  rw [if_neg e_X11_in] at h
  by_cases e_X11_mutineers : n = 195
  · rw [if_pos e_X11_mutineers] at h
    subst e_X11_mutineers
    exact c_X11_mutineers hX h hv
  rw [if_neg e_X11_mutineers] at h
  cases h
theorem cl_X11_mutiny_X11_isLaw {ρ : Type} (σ : zH) (av : List zAV) (q : zH → zAV → Option ρ) : cc_X11_mutiny 164 σ av q = g_X11_isLaw σ av q := rfl
theorem cl_X11_mutiny_X11_isCompany {ρ : Type} (σ : zH) (av : List zAV) (q : zH → zAV → Option ρ) : cc_X11_mutiny 127 σ av q = g_X11_isCompany σ av q := rfl
theorem cl_X11_mutiny_X11_in {ρ : Type} (σ : zH) (av : List zAV) (q : zH → zAV → Option ρ) : cc_X11_mutiny 125 σ av q = g_X11_in σ av q := rfl
theorem cl_X11_mutiny_X11_mutineers {ρ : Type} (σ : zH) (av : List zAV) (q : zH → zAV → Option ρ) : cc_X11_mutiny 195 σ av q = g_X11_mutineers σ av q := rfl
theorem hy_X11_mutiny {ρ : Type} {X : zX} (hX : zHX X) : zHY X 196 (cc_X11_mutiny (ρ := ρ)) := zHX.hY hX (cs_X11_mutiny hX) (zmok_all 196 (by decide))
theorem t_X11_mutiny_0 {G : Nat → zH → List zAV → List zAV → Option (zH × Int32)} (es : List zEnt) (σ : zH) (x1 : Int32) (x2 : Int32) (x3 : Int32) (x4 : Int32)   : zev cc_X11_mutiny G 0 krI (zE 0 (.aload_n 0) 1 :: zE 1 (.iload_n 1) 1 :: es) σ [vR 11 0, vI x1, vI x2, vI x3, vI x4] [] = zev cc_X11_mutiny G 0 krI es σ [vR 11 0, vI x1, vI x2, vI x3, vI x4] [vI x1, vR 11 0] := rfl
theorem t_X11_mutiny_8 {G : Nat → zH → List zAV → List zAV → Option (zH × Int32)} (es : List zEnt) (σ : zH) (x1 : Int32) (x2 : Int32) (x3 : Int32) (x4 : Int32)   : zev cc_X11_mutiny G 0 krI (zE 8 (.aload_n 0) 1 :: zE 9 (.iload_n 2) 1 :: es) σ [vR 11 0, vI x1, vI x2, vI x3, vI x4] [] = zev cc_X11_mutiny G 0 krI es σ [vR 11 0, vI x1, vI x2, vI x3, vI x4] [vI x2, vR 11 0] := rfl
theorem t_X11_mutiny_16 {G : Nat → zH → List zAV → List zAV → Option (zH × Int32)} (es : List zEnt) (σ : zH) (x1 : Int32) (x2 : Int32) (x3 : Int32) (x4 : Int32)  (w18 : Int64) (w19 : Int64) : zev cc_X11_mutiny G 0 krI (zE 16 (.iload_n 3) 1 :: zE 17 .i2l 1 :: (18, (.lconst 0), 1, (0, 0, 0, 0), (0, 0, 0), 0, w18, []) :: (19, (.ldc2_w 421), 3, (0, 0, 1488, 0), (0, 0, 0), 0, w19, []) :: es) σ [vR 11 0, vI x1, vI x2, vI x3, vI x4] [] = zev cc_X11_mutiny G 0 krI es σ [vR 11 0, vI x1, vI x2, vI x3, vI x4] [vL w19, vL w18, vL x3.toInt64] := rfl
theorem t_X11_mutiny_28 {G : Nat → zH → List zAV → List zAV → Option (zH × Int32)} (es : List zEnt) (σ : zH) (x1 : Int32) (x2 : Int32) (x3 : Int32) (x4 : Int32)  (w31 : Int64) (w32 : Int64) : zev cc_X11_mutiny G 0 krI (zE 28 (.iload 4) 2 :: zE 30 .i2l 1 :: (31, (.lconst 0), 1, (0, 0, 0, 0), (0, 0, 0), 0, w31, []) :: (32, (.ldc2_w 421), 3, (0, 0, 1488, 0), (0, 0, 0), 0, w32, []) :: es) σ [vR 11 0, vI x1, vI x2, vI x3, vI x4] [] = zev cc_X11_mutiny G 0 krI es σ [vR 11 0, vI x1, vI x2, vI x3, vI x4] [vL w32, vL w31, vL x4.toInt64] := rfl
theorem t_X11_mutiny_41 {G : Nat → zH → List zAV → List zAV → Option (zH × Int32)} (es : List zEnt) (σ : zH)  (y0 : zAV) (y1 : zAV) (y2 : zAV) (y3 : zAV) (y4 : zAV) (w41 : Int32) : zev cc_X11_mutiny G 0 krI (zEk 41 (.iconst (-1)) 1 w41 :: es) σ [y0, y1, y2, y3, y4] [] = zev cc_X11_mutiny G 0 krI es σ [y0, y1, y2, y3, y4] [vI w41] := rfl
theorem t_X11_mutiny_45 {G : Nat → zH → List zAV → List zAV → Option (zH × Int32)} (es : List zEnt) (σ : zH) (x1 : Int32) (x2 : Int32) (x3 : Int32) (x4 : Int32)   : zev cc_X11_mutiny G 0 krI (zE 45 (.aload_n 0) 1 :: zE 46 (.iload_n 1) 1 :: zE 47 (.iload_n 2) 1 :: zE 48 (.iload_n 3) 1 :: zE 49 (.iload 4) 2 :: es) σ [vR 11 0, vI x1, vI x2, vI x3, vI x4] [] = zev cc_X11_mutiny G 0 krI es σ [vR 11 0, vI x1, vI x2, vI x3, vI x4] [vI x4, vI x3, vI x2, vI x1, vR 11 0] := rfl
noncomputable def d_X11_mutiny (σ : zH) (xa1 : Int32) (xa2 : Int32) (xa3 : Int32) (xa4 : Int32) : Option (zH × Int32) :=
  (d_X11_isLaw σ xa1).bind fun p1 =>
  if p1.2 = 0 then
    some (p1.1, (-1 : Int32))
  else
    (d_X11_isCompany p1.1 xa2).bind fun p2 =>
    if p2.2 = 0 then
      some (p2.1, (-1 : Int32))
    else
      (d_X11_in p2.1 xa3.toInt64 (0 : Int64) (96 : Int64)).bind fun p3 =>
      if p3.2 = 0 then
        some (p3.1, (-1 : Int32))
      else
        (d_X11_in p3.1 xa4.toInt64 (0 : Int64) (96 : Int64)).bind fun p4 =>
        if p4.2 = 0 then
          some (p4.1, (-1 : Int32))
        else
          (d_X11_mutineers p4.1 xa1 xa2 xa3 xa4).bind fun p5 =>
          some (p5.1, p5.2)
theorem e_X11_mutiny (σ : zH) (xa1 : Int32) (xa2 : Int32) (xa3 : Int32) (xa4 : Int32) : d_X11_mutiny σ xa1 xa2 xa3 xa4 = zin cc_X11_mutiny (fun t => none) 0 krI b_X11_mutiny 0 σ [vR 11 0, vI xa1, vI xa2, vI xa3, vI xa4] [] := by
  unfold d_X11_mutiny
  refine Eq.symm ((zin_b (es := q_X11_mutiny_0) rfl).trans ?_)
  refine (t_X11_mutiny_0 _ _ _ _ _ _).trans ?_
  refine (x_callV rfl rfl rfl rfl).trans ((cl_X11_mutiny_X11_isLaw _ _ _).trans ((gr_X11_isLaw _ _ _).trans (pbd fun _ => ?_)))
  refine x_if.trans (pif_eq ?_ ?_)
  · refine (zrun_b (es := q_X11_mutiny_41) rfl rfl).trans ?_
    refine (t_X11_mutiny_41 _ _ _ _ _ _ _ _).trans ?_
    refine x_goto.trans ?_
    refine (zrun_b (es := q_X11_mutiny_54) rfl rfl).trans ?_
    exact x_iret
  · refine (t_X11_mutiny_8 _ _ _ _ _ _).trans ?_
    refine (x_callV rfl rfl rfl rfl).trans ((cl_X11_mutiny_X11_isCompany _ _ _).trans ((gr_X11_isCompany _ _ _).trans (pbd fun _ => ?_)))
    refine x_if.trans (pif_eq ?_ ?_)
    · refine (zrun_b (es := q_X11_mutiny_41) rfl rfl).trans ?_
      refine (t_X11_mutiny_41 _ _ _ _ _ _ _ _).trans ?_
      refine x_goto.trans ?_
      refine (zrun_b (es := q_X11_mutiny_54) rfl rfl).trans ?_
      exact x_iret
    · refine (t_X11_mutiny_16 _ _ _ _ _ _ _ _).trans ?_
      refine (x_callS rfl rfl rfl rfl).trans ((cl_X11_mutiny_X11_in _ _ _).trans ((gr_X11_in _ _ _ _ _).trans (pbd fun _ => ?_)))
      refine x_if.trans (pif_eq ?_ ?_)
      · refine (zrun_b (es := q_X11_mutiny_41) rfl rfl).trans ?_
        refine (t_X11_mutiny_41 _ _ _ _ _ _ _ _).trans ?_
        refine x_goto.trans ?_
        refine (zrun_b (es := q_X11_mutiny_54) rfl rfl).trans ?_
        exact x_iret
      · refine (t_X11_mutiny_28 _ _ _ _ _ _ _ _).trans ?_
        refine (x_callS rfl rfl rfl rfl).trans ((cl_X11_mutiny_X11_in _ _ _).trans ((gr_X11_in _ _ _ _ _).trans (pbd fun _ => ?_)))
        refine x_if.trans (pif_ne ?_ ?_)
        · refine (zrun_b (es := q_X11_mutiny_45) rfl rfl).trans ?_
          refine (t_X11_mutiny_45 _ _ _ _ _ _).trans ?_
          refine (x_callV rfl rfl rfl rfl).trans ((cl_X11_mutiny_X11_mutineers _ _ _).trans ((gr_X11_mutineers _ _ _ _ _ _).trans (pbd fun _ => ?_)))
          exact x_iret
        · refine (t_X11_mutiny_41 _ _ _ _ _ _ _ _).trans ?_
          refine x_goto.trans ?_
          refine (zrun_b (es := q_X11_mutiny_54) rfl rfl).trans ?_
          exact x_iret
noncomputable def g_X11_mutiny {ρ : Type} (σ : zH) (av : List zAV) (q : zH → zAV → Option ρ) : Option ρ := match av with
  | [.inr (.inr (.inl (11, 0))), .inl xa1, .inl xa2, .inl xa3, .inl xa4] => (d_X11_mutiny σ xa1 xa2 xa3 xa4).bind fun p => q p.1 (vI p.2)
  | _ => none
theorem gr_X11_mutiny {ρ : Type} (σ : zH) (xa1 : Int32) (xa2 : Int32) (xa3 : Int32) (xa4 : Int32) (q : zH → zAV → Option ρ) : g_X11_mutiny σ [vR 11 0, vI xa1, vI xa2, vI xa3, vI xa4] q = (d_X11_mutiny σ xa1 xa2 xa3 xa4).bind fun p => q p.1 (vI p.2) := rfl
theorem c_X11_mutiny {ρ : Type} {X : zX} (hX : zHX X) {σ : zH} {av : List zAV} {q : zH → zAV → Option ρ} {r : ρ} (h : g_X11_mutiny σ av q = some r) (hv : ∀ a ∈ av, zval X a) : zcon X 196 σ av q r := by
  unfold g_X11_mutiny at h
  split at h
  · exact zcon_I (n := 196) (ml := 5) (rc := 0) (st := 0) (kd := 11) (np := 4) (by decide +kernel) (by decide) ⟨_, _, rfl, rfl⟩ (Nat.le_of_ble_eq_true rfl) hv h (fun y h1 => (zin_ok (hy_X11_mutiny hX) bk_X11_mutiny (fun t f hf => by
      cases hf) ((e_X11_mutiny _ _ _ _ _).symm.trans h1)))
  · cases h
/-! SleepWavesModel.crest(IIIII)I -/
def q_X11_crest_53 : List zEnt := zE 53 .ireturn 1 :: []
def q_X11_crest_52 : List zEnt := zEk 52 (.iconst (-1)) 1 (-1) :: q_X11_crest_53
def q_X11_crest_49 : List zEnt := zEa 49 (.ifCond .ne 5) 3 54 :: q_X11_crest_52
def q_X11_crest_46 : List zEnt := zEc 46 (.invokestatic 173) 3 125 3 129 0 :: q_X11_crest_49
def q_X11_crest_41 : List zEnt := zE 41 (.iload 5) 2 :: zE 43 .i2l 1 :: (44, (.lconst 0), 1, (0, 0, 0, 0), (0, 0, 0), 0, 0, []) :: (45, (.lconst 1), 1, (0, 0, 0, 0), (0, 0, 0), 0, 1, []) :: q_X11_crest_46
def q_X11_crest_38 : List zEnt := zEa 38 (.ifCond .eq 14) 3 52 :: q_X11_crest_41
def q_X11_crest_35 : List zEnt := zEc 35 (.invokestatic 173) 3 125 3 129 0 :: q_X11_crest_38
def q_X11_crest_28 : List zEnt := zE 28 (.iload 4) 2 :: zE 30 .i2l 1 :: (31, (.lconst 1), 1, (0, 0, 0, 0), (0, 0, 0), 0, 1, []) :: (32, (.ldc2_w 421), 3, (0, 0, 1488, 0), (0, 0, 0), 0, 96, []) :: q_X11_crest_35
def q_X11_crest_25 : List zEnt := zEa 25 (.ifCond .eq 27) 3 52 :: q_X11_crest_28
def q_X11_crest_22 : List zEnt := zEc 22 (.invokestatic 173) 3 125 3 129 0 :: q_X11_crest_25
def q_X11_crest_16 : List zEnt := zE 16 (.iload_n 3) 1 :: zE 17 .i2l 1 :: (18, (.lconst 0), 1, (0, 0, 0, 0), (0, 0, 0), 0, 0, []) :: (19, (.ldc2_w 218), 3, (0, 0, 1400, 0), (0, 0, 0), 0, 48, []) :: q_X11_crest_22
def q_X11_crest_13 : List zEnt := zEa 13 (.ifCond .eq 39) 3 52 :: q_X11_crest_16
def q_X11_crest_10 : List zEnt := zEc 10 (.invokevirtual 426) 3 127 2 167 0 :: q_X11_crest_13
def q_X11_crest_8 : List zEnt := zE 8 (.aload_n 0) 1 :: zE 9 (.iload_n 2) 1 :: q_X11_crest_10
def q_X11_crest_5 : List zEnt := zEa 5 (.ifCond .eq 47) 3 52 :: q_X11_crest_8
def q_X11_crest_2 : List zEnt := zEc 2 (.invokevirtual 418) 3 164 2 145 0 :: q_X11_crest_5
def q_X11_crest_0 : List zEnt := zE 0 (.aload_n 0) 1 :: zE 1 (.iload_n 1) 1 :: q_X11_crest_2
def q_X11_crest_54 : List zEnt := zEk 54 (.iconst 0) 1 0 :: zE 55 (.istore 6) 2 :: zEk 57 (.iconst (-1)) 1 (-1) :: zE 58 (.istore 7) 2 :: zEk 60 (.iconst 0) 1 0 :: zE 61 (.istore 8) 2 :: [zE 63 .nop 0]
def q_X11_crest_90 : List zEnt := zEa 90 (.goto 5) 3 95 :: []
def q_X11_crest_88 : List zEnt := zE 88 (.iload 8) 2 :: q_X11_crest_90
def q_X11_crest_85 : List zEnt := zEa 85 (.if_icmp .le 8) 3 93 :: q_X11_crest_88
def q_X11_crest_79 : List zEnt := zE 79 (.istore 9) 2 :: zE 81 (.iload 9) 2 :: zE 83 (.iload 7) 2 :: q_X11_crest_85
def q_X11_crest_76 : List zEnt := zEc 76 (.invokevirtual 460) 3 195 5 173 0 :: q_X11_crest_79
def q_X11_crest_70 : List zEnt := zE 70 (.aload_n 0) 1 :: zE 71 (.iload_n 1) 1 :: zE 72 (.iload_n 2) 1 :: zE 73 (.iload 8) 2 :: zE 75 (.iload_n 3) 1 :: q_X11_crest_76
def q_X11_crest_67 : List zEnt := zEa 67 (.if_icmp .ge 52) 3 119 :: q_X11_crest_70
def q_X11_crest_63 : List zEnt := zE 63 (.iload 8) 2 :: zE 65 (.iload 4) 2 :: q_X11_crest_67
def q_X11_crest_93 : List zEnt := zE 93 (.iload 6) 2 :: [zE 95 .nop 0]
def q_X11_crest_106 : List zEnt := zEa 106 (.goto 5) 3 111 :: []
def q_X11_crest_104 : List zEnt := zE 104 (.iload 9) 2 :: q_X11_crest_106
def q_X11_crest_101 : List zEnt := zEa 101 (.if_icmp .le 8) 3 109 :: q_X11_crest_104
def q_X11_crest_95 : List zEnt := zE 95 (.istore 6) 2 :: zE 97 (.iload 9) 2 :: zE 99 (.iload 7) 2 :: q_X11_crest_101
def q_X11_crest_109 : List zEnt := zE 109 (.iload 7) 2 :: [zE 111 .nop 0]
def q_X11_crest_116 : List zEnt := zEa 116 (.goto (-53)) 3 63 :: []
def q_X11_crest_111 : List zEnt := zE 111 (.istore 7) 2 :: zEk 113 (.iinc 8 1) 3 1 :: q_X11_crest_116
def q_X11_crest_126 : List zEnt := zEa 126 (.goto 5) 3 131 :: []
def q_X11_crest_124 : List zEnt := zE 124 (.iload 6) 2 :: q_X11_crest_126
def q_X11_crest_121 : List zEnt := zEa 121 (.ifCond .ne 8) 3 129 :: q_X11_crest_124
def q_X11_crest_119 : List zEnt := zE 119 (.iload 5) 2 :: q_X11_crest_121
def q_X11_crest_131 : List zEnt := zE 131 .ireturn 1 :: []
def q_X11_crest_129 : List zEnt := zE 129 (.iload 7) 2 :: q_X11_crest_131
def b_X11_crest : List (Nat × List zEnt) := [(0, q_X11_crest_0), (52, q_X11_crest_52), (54, q_X11_crest_54), (63, q_X11_crest_63), (93, q_X11_crest_93), (95, q_X11_crest_95), (109, q_X11_crest_109), (111, q_X11_crest_111), (119, q_X11_crest_119), (129, q_X11_crest_129), (131, q_X11_crest_131)]
theorem bk_X11_crest : zchB 197 b_X11_crest = true := by decide +kernel
noncomputable def cc_X11_crest {ρ : Type} : Nat → zH → List zAV → (zH → zAV → Option ρ) → Option ρ := fun n σ av q => if n = 164 then g_X11_isLaw σ av q else if n = 127 then g_X11_isCompany σ av q else if n = 125 then g_X11_in σ av q else if n = 195 then g_X11_mutineers σ av q else none
theorem cs_X11_crest {ρ : Type} {X : zX} (hX : zHX X) : zCS X (cc_X11_crest (ρ := ρ)) := by
  intro n σ av q r h hv
  unfold cc_X11_crest at h
  by_cases e_X11_isLaw : n = 164
  · rw [if_pos e_X11_isLaw] at h
    subst e_X11_isLaw
    exact c_X11_isLaw hX h hv
  rw [if_neg e_X11_isLaw] at h
  by_cases e_X11_isCompany : n = 127
  · rw [if_pos e_X11_isCompany] at h
    subst e_X11_isCompany
    exact c_X11_isCompany hX h hv
  rw [if_neg e_X11_isCompany] at h
  by_cases e_X11_in : n = 125
  · rw [if_pos e_X11_in] at h
    subst e_X11_in
    exact c_X11_in hX h hv
  rw [if_neg e_X11_in] at h
  by_cases e_X11_mutineers : n = 195
  · rw [if_pos e_X11_mutineers] at h
    subst e_X11_mutineers
    exact c_X11_mutineers hX h hv
  rw [if_neg e_X11_mutineers] at h
  cases h
theorem cl_X11_crest_X11_isLaw {ρ : Type} (σ : zH) (av : List zAV) (q : zH → zAV → Option ρ) : cc_X11_crest 164 σ av q = g_X11_isLaw σ av q := rfl
theorem cl_X11_crest_X11_isCompany {ρ : Type} (σ : zH) (av : List zAV) (q : zH → zAV → Option ρ) : cc_X11_crest 127 σ av q = g_X11_isCompany σ av q := rfl
theorem cl_X11_crest_X11_in {ρ : Type} (σ : zH) (av : List zAV) (q : zH → zAV → Option ρ) : cc_X11_crest 125 σ av q = g_X11_in σ av q := rfl
theorem cl_X11_crest_X11_mutineers {ρ : Type} (σ : zH) (av : List zAV) (q : zH → zAV → Option ρ) : cc_X11_crest 195 σ av q = g_X11_mutineers σ av q := rfl
theorem hy_X11_crest {ρ : Type} {X : zX} (hX : zHX X) : zHY X 197 (cc_X11_crest (ρ := ρ)) := zHX.hY hX (cs_X11_crest hX) (zmok_all 197 (by decide))
def gl_X11_crest_63 {ρ : Type} (f : zH → Int32 → Int32 → Int32 → Int32 → Int32 → Int32 → Int32 → Int32 → Option ρ) (σ : zH) (L st : List zAV) : Option ρ := match L, st with
  | [.inr (.inr (.inl (11, 0))), .inl x1, .inl x2, .inl x3, .inl x4, .inl x5, .inl x6, .inl x7, .inl x8, _], [] => f σ x1 x2 x3 x4 x5 x6 x7 x8
  | _, _ => none
def gl_X11_crest_95 {ρ : Type} (f : zH → Int32 → Int32 → Int32 → Int32 → Int32 → Int32 → Int32 → Int32 → Int32 → Option ρ) (σ : zH) (L st : List zAV) : Option ρ := match L, st with
  | [.inr (.inr (.inl (11, 0))), .inl x1, .inl x2, .inl x3, .inl x4, .inl x5, _, .inl x7, .inl x8, .inl x9], [.inl xs0] => f σ x1 x2 x3 x4 x5 x7 x8 x9 xs0
  | _, _ => none
def gl_X11_crest_111 {ρ : Type} (f : zH → Int32 → Int32 → Int32 → Int32 → Int32 → Int32 → Int32 → Int32 → Option ρ) (σ : zH) (L st : List zAV) : Option ρ := match L, st with
  | [.inr (.inr (.inl (11, 0))), .inl x1, .inl x2, .inl x3, .inl x4, .inl x5, .inl x6, _, .inl x8, _], [.inl xs0] => f σ x1 x2 x3 x4 x5 x6 x8 xs0
  | _, _ => none
def gl_X11_crest_119 {ρ : Type} (f : zH → Int32 → Int32 → Int32 → Option ρ) (σ : zH) (L st : List zAV) : Option ρ := match L, st with
  | [_, _, _, _, _, .inl x5, .inl x6, .inl x7, _, _], [] => f σ x5 x6 x7
  | _, _ => none
theorem glr_X11_crest_63 {ρ : Type} (f : zH → Int32 → Int32 → Int32 → Int32 → Int32 → Int32 → Int32 → Int32 → Option ρ) (σ : zH) (x1 : Int32) (x2 : Int32) (x3 : Int32) (x4 : Int32) (x5 : Int32) (x6 : Int32) (x7 : Int32) (x8 : Int32) (y9 : zAV) : gl_X11_crest_63 f σ [vR 11 0, vI x1, vI x2, vI x3, vI x4, vI x5, vI x6, vI x7, vI x8, y9] [] = f σ x1 x2 x3 x4 x5 x6 x7 x8 := rfl
theorem glr_X11_crest_95 {ρ : Type} (f : zH → Int32 → Int32 → Int32 → Int32 → Int32 → Int32 → Int32 → Int32 → Int32 → Option ρ) (σ : zH) (x1 : Int32) (x2 : Int32) (x3 : Int32) (x4 : Int32) (x5 : Int32) (x7 : Int32) (x8 : Int32) (x9 : Int32) (xs0 : Int32) (y6 : zAV) : gl_X11_crest_95 f σ [vR 11 0, vI x1, vI x2, vI x3, vI x4, vI x5, y6, vI x7, vI x8, vI x9] [vI xs0] = f σ x1 x2 x3 x4 x5 x7 x8 x9 xs0 := rfl
theorem glr_X11_crest_111 {ρ : Type} (f : zH → Int32 → Int32 → Int32 → Int32 → Int32 → Int32 → Int32 → Int32 → Option ρ) (σ : zH) (x1 : Int32) (x2 : Int32) (x3 : Int32) (x4 : Int32) (x5 : Int32) (x6 : Int32) (x8 : Int32) (xs0 : Int32) (y7 : zAV) (y9 : zAV) : gl_X11_crest_111 f σ [vR 11 0, vI x1, vI x2, vI x3, vI x4, vI x5, vI x6, y7, vI x8, y9] [vI xs0] = f σ x1 x2 x3 x4 x5 x6 x8 xs0 := rfl
theorem glr_X11_crest_119 {ρ : Type} (f : zH → Int32 → Int32 → Int32 → Option ρ) (σ : zH) (x5 : Int32) (x6 : Int32) (x7 : Int32) (y0 : zAV) (y1 : zAV) (y2 : zAV) (y3 : zAV) (y4 : zAV) (y8 : zAV) (y9 : zAV) : gl_X11_crest_119 f σ [y0, y1, y2, y3, y4, vI x5, vI x6, vI x7, y8, y9] [] = f σ x5 x6 x7 := rfl
theorem t_X11_crest_0 {G : Nat → zH → List zAV → List zAV → Option (zH × Int32)} (es : List zEnt) (σ : zH) (x1 : Int32) (x2 : Int32) (x3 : Int32) (x4 : Int32) (x5 : Int32) (y6 : zAV) (y7 : zAV) (y8 : zAV) (y9 : zAV)  : zev cc_X11_crest G 0 krI (zE 0 (.aload_n 0) 1 :: zE 1 (.iload_n 1) 1 :: es) σ [vR 11 0, vI x1, vI x2, vI x3, vI x4, vI x5, y6, y7, y8, y9] [] = zev cc_X11_crest G 0 krI es σ [vR 11 0, vI x1, vI x2, vI x3, vI x4, vI x5, y6, y7, y8, y9] [vI x1, vR 11 0] := rfl
theorem t_X11_crest_8 {G : Nat → zH → List zAV → List zAV → Option (zH × Int32)} (es : List zEnt) (σ : zH) (x1 : Int32) (x2 : Int32) (x3 : Int32) (x4 : Int32) (x5 : Int32) (y6 : zAV) (y7 : zAV) (y8 : zAV) (y9 : zAV)  : zev cc_X11_crest G 0 krI (zE 8 (.aload_n 0) 1 :: zE 9 (.iload_n 2) 1 :: es) σ [vR 11 0, vI x1, vI x2, vI x3, vI x4, vI x5, y6, y7, y8, y9] [] = zev cc_X11_crest G 0 krI es σ [vR 11 0, vI x1, vI x2, vI x3, vI x4, vI x5, y6, y7, y8, y9] [vI x2, vR 11 0] := rfl
theorem t_X11_crest_16 {G : Nat → zH → List zAV → List zAV → Option (zH × Int32)} (es : List zEnt) (σ : zH) (x1 : Int32) (x2 : Int32) (x3 : Int32) (x4 : Int32) (x5 : Int32) (y6 : zAV) (y7 : zAV) (y8 : zAV) (y9 : zAV) (w18 : Int64) (w19 : Int64) : zev cc_X11_crest G 0 krI (zE 16 (.iload_n 3) 1 :: zE 17 .i2l 1 :: (18, (.lconst 0), 1, (0, 0, 0, 0), (0, 0, 0), 0, w18, []) :: (19, (.ldc2_w 218), 3, (0, 0, 1400, 0), (0, 0, 0), 0, w19, []) :: es) σ [vR 11 0, vI x1, vI x2, vI x3, vI x4, vI x5, y6, y7, y8, y9] [] = zev cc_X11_crest G 0 krI es σ [vR 11 0, vI x1, vI x2, vI x3, vI x4, vI x5, y6, y7, y8, y9] [vL w19, vL w18, vL x3.toInt64] := rfl
theorem t_X11_crest_28 {G : Nat → zH → List zAV → List zAV → Option (zH × Int32)} (es : List zEnt) (σ : zH) (x1 : Int32) (x2 : Int32) (x3 : Int32) (x4 : Int32) (x5 : Int32) (y6 : zAV) (y7 : zAV) (y8 : zAV) (y9 : zAV) (w31 : Int64) (w32 : Int64) : zev cc_X11_crest G 0 krI (zE 28 (.iload 4) 2 :: zE 30 .i2l 1 :: (31, (.lconst 1), 1, (0, 0, 0, 0), (0, 0, 0), 0, w31, []) :: (32, (.ldc2_w 421), 3, (0, 0, 1488, 0), (0, 0, 0), 0, w32, []) :: es) σ [vR 11 0, vI x1, vI x2, vI x3, vI x4, vI x5, y6, y7, y8, y9] [] = zev cc_X11_crest G 0 krI es σ [vR 11 0, vI x1, vI x2, vI x3, vI x4, vI x5, y6, y7, y8, y9] [vL w32, vL w31, vL x4.toInt64] := rfl
theorem t_X11_crest_41 {G : Nat → zH → List zAV → List zAV → Option (zH × Int32)} (es : List zEnt) (σ : zH) (x1 : Int32) (x2 : Int32) (x3 : Int32) (x4 : Int32) (x5 : Int32) (y6 : zAV) (y7 : zAV) (y8 : zAV) (y9 : zAV) (w44 : Int64) (w45 : Int64) : zev cc_X11_crest G 0 krI (zE 41 (.iload 5) 2 :: zE 43 .i2l 1 :: (44, (.lconst 0), 1, (0, 0, 0, 0), (0, 0, 0), 0, w44, []) :: (45, (.lconst 1), 1, (0, 0, 0, 0), (0, 0, 0), 0, w45, []) :: es) σ [vR 11 0, vI x1, vI x2, vI x3, vI x4, vI x5, y6, y7, y8, y9] [] = zev cc_X11_crest G 0 krI es σ [vR 11 0, vI x1, vI x2, vI x3, vI x4, vI x5, y6, y7, y8, y9] [vL w45, vL w44, vL x5.toInt64] := rfl
theorem t_X11_crest_52 {G : Nat → zH → List zAV → List zAV → Option (zH × Int32)} (es : List zEnt) (σ : zH)  (y0 : zAV) (y1 : zAV) (y2 : zAV) (y3 : zAV) (y4 : zAV) (y5 : zAV) (y6 : zAV) (y7 : zAV) (y8 : zAV) (y9 : zAV) (w52 : Int32) : zev cc_X11_crest G 0 krI (zEk 52 (.iconst (-1)) 1 w52 :: es) σ [y0, y1, y2, y3, y4, y5, y6, y7, y8, y9] [] = zev cc_X11_crest G 0 krI es σ [y0, y1, y2, y3, y4, y5, y6, y7, y8, y9] [vI w52] := rfl
theorem t_X11_crest_54 {G : Nat → zH → List zAV → List zAV → Option (zH × Int32)} (es : List zEnt) (σ : zH) (x1 : Int32) (x2 : Int32) (x3 : Int32) (x4 : Int32) (x5 : Int32) (y6 : zAV) (y7 : zAV) (y8 : zAV) (y9 : zAV) (w54 : Int32) (w57 : Int32) (w60 : Int32) : zev cc_X11_crest G 0 krI (zEk 54 (.iconst 0) 1 w54 :: zE 55 (.istore 6) 2 :: zEk 57 (.iconst (-1)) 1 w57 :: zE 58 (.istore 7) 2 :: zEk 60 (.iconst 0) 1 w60 :: zE 61 (.istore 8) 2 :: es) σ [vR 11 0, vI x1, vI x2, vI x3, vI x4, vI x5, y6, y7, y8, y9] [] = zev cc_X11_crest G 0 krI es σ [vR 11 0, vI x1, vI x2, vI x3, vI x4, vI x5, vI w54, vI w57, vI w60, y9] [] := rfl
theorem t_X11_crest_63 {G : Nat → zH → List zAV → List zAV → Option (zH × Int32)} (es : List zEnt) (σ : zH) (x1 : Int32) (x2 : Int32) (x3 : Int32) (x4 : Int32) (x5 : Int32) (x6 : Int32) (x7 : Int32) (x8 : Int32) (y9 : zAV)  : zev cc_X11_crest G 0 krI (zE 63 (.iload 8) 2 :: zE 65 (.iload 4) 2 :: es) σ [vR 11 0, vI x1, vI x2, vI x3, vI x4, vI x5, vI x6, vI x7, vI x8, y9] [] = zev cc_X11_crest G 0 krI es σ [vR 11 0, vI x1, vI x2, vI x3, vI x4, vI x5, vI x6, vI x7, vI x8, y9] [vI x4, vI x8] := rfl
theorem t_X11_crest_70 {G : Nat → zH → List zAV → List zAV → Option (zH × Int32)} (es : List zEnt) (σ : zH) (x1 : Int32) (x2 : Int32) (x3 : Int32) (x4 : Int32) (x5 : Int32) (x6 : Int32) (x7 : Int32) (x8 : Int32) (y9 : zAV)  : zev cc_X11_crest G 0 krI (zE 70 (.aload_n 0) 1 :: zE 71 (.iload_n 1) 1 :: zE 72 (.iload_n 2) 1 :: zE 73 (.iload 8) 2 :: zE 75 (.iload_n 3) 1 :: es) σ [vR 11 0, vI x1, vI x2, vI x3, vI x4, vI x5, vI x6, vI x7, vI x8, y9] [] = zev cc_X11_crest G 0 krI es σ [vR 11 0, vI x1, vI x2, vI x3, vI x4, vI x5, vI x6, vI x7, vI x8, y9] [vI x3, vI x8, vI x2, vI x1, vR 11 0] := rfl
theorem t_X11_crest_79 {G : Nat → zH → List zAV → List zAV → Option (zH × Int32)} (es : List zEnt) (σ : zH) (x1 : Int32) (x2 : Int32) (x3 : Int32) (x4 : Int32) (x5 : Int32) (x6 : Int32) (x7 : Int32) (x8 : Int32) (xs0 : Int32) (y9 : zAV)  : zev cc_X11_crest G 0 krI (zE 79 (.istore 9) 2 :: zE 81 (.iload 9) 2 :: zE 83 (.iload 7) 2 :: es) σ [vR 11 0, vI x1, vI x2, vI x3, vI x4, vI x5, vI x6, vI x7, vI x8, y9] [vI xs0] = zev cc_X11_crest G 0 krI es σ [vR 11 0, vI x1, vI x2, vI x3, vI x4, vI x5, vI x6, vI x7, vI x8, vI xs0] [vI x7, vI xs0] := rfl
theorem t_X11_crest_88 {G : Nat → zH → List zAV → List zAV → Option (zH × Int32)} (es : List zEnt) (σ : zH) (x1 : Int32) (x2 : Int32) (x3 : Int32) (x4 : Int32) (x5 : Int32) (x7 : Int32) (x8 : Int32) (x9 : Int32) (y6 : zAV)  : zev cc_X11_crest G 0 krI (zE 88 (.iload 8) 2 :: es) σ [vR 11 0, vI x1, vI x2, vI x3, vI x4, vI x5, y6, vI x7, vI x8, vI x9] [] = zev cc_X11_crest G 0 krI es σ [vR 11 0, vI x1, vI x2, vI x3, vI x4, vI x5, y6, vI x7, vI x8, vI x9] [vI x8] := rfl
theorem t_X11_crest_93 {G : Nat → zH → List zAV → List zAV → Option (zH × Int32)} (es : List zEnt) (σ : zH) (x1 : Int32) (x2 : Int32) (x3 : Int32) (x4 : Int32) (x5 : Int32) (x6 : Int32) (x7 : Int32) (x8 : Int32) (x9 : Int32)   : zev cc_X11_crest G 0 krI (zE 93 (.iload 6) 2 :: es) σ [vR 11 0, vI x1, vI x2, vI x3, vI x4, vI x5, vI x6, vI x7, vI x8, vI x9] [] = zev cc_X11_crest G 0 krI es σ [vR 11 0, vI x1, vI x2, vI x3, vI x4, vI x5, vI x6, vI x7, vI x8, vI x9] [vI x6] := rfl
theorem t_X11_crest_95 {G : Nat → zH → List zAV → List zAV → Option (zH × Int32)} (es : List zEnt) (σ : zH) (x1 : Int32) (x2 : Int32) (x3 : Int32) (x4 : Int32) (x5 : Int32) (x7 : Int32) (x8 : Int32) (x9 : Int32) (xs0 : Int32) (y6 : zAV)  : zev cc_X11_crest G 0 krI (zE 95 (.istore 6) 2 :: zE 97 (.iload 9) 2 :: zE 99 (.iload 7) 2 :: es) σ [vR 11 0, vI x1, vI x2, vI x3, vI x4, vI x5, y6, vI x7, vI x8, vI x9] [vI xs0] = zev cc_X11_crest G 0 krI es σ [vR 11 0, vI x1, vI x2, vI x3, vI x4, vI x5, vI xs0, vI x7, vI x8, vI x9] [vI x7, vI x9] := rfl
theorem t_X11_crest_104 {G : Nat → zH → List zAV → List zAV → Option (zH × Int32)} (es : List zEnt) (σ : zH) (x1 : Int32) (x2 : Int32) (x3 : Int32) (x4 : Int32) (x5 : Int32) (x6 : Int32) (x8 : Int32) (x9 : Int32) (y7 : zAV)  : zev cc_X11_crest G 0 krI (zE 104 (.iload 9) 2 :: es) σ [vR 11 0, vI x1, vI x2, vI x3, vI x4, vI x5, vI x6, y7, vI x8, vI x9] [] = zev cc_X11_crest G 0 krI es σ [vR 11 0, vI x1, vI x2, vI x3, vI x4, vI x5, vI x6, y7, vI x8, vI x9] [vI x9] := rfl
theorem t_X11_crest_109 {G : Nat → zH → List zAV → List zAV → Option (zH × Int32)} (es : List zEnt) (σ : zH) (x1 : Int32) (x2 : Int32) (x3 : Int32) (x4 : Int32) (x5 : Int32) (x6 : Int32) (x7 : Int32) (x8 : Int32) (y9 : zAV)  : zev cc_X11_crest G 0 krI (zE 109 (.iload 7) 2 :: es) σ [vR 11 0, vI x1, vI x2, vI x3, vI x4, vI x5, vI x6, vI x7, vI x8, y9] [] = zev cc_X11_crest G 0 krI es σ [vR 11 0, vI x1, vI x2, vI x3, vI x4, vI x5, vI x6, vI x7, vI x8, y9] [vI x7] := rfl
theorem t_X11_crest_111 {G : Nat → zH → List zAV → List zAV → Option (zH × Int32)} (es : List zEnt) (σ : zH) (x1 : Int32) (x2 : Int32) (x3 : Int32) (x4 : Int32) (x5 : Int32) (x6 : Int32) (x8 : Int32) (xs0 : Int32) (y7 : zAV) (y9 : zAV) (w113 : Int32) : zev cc_X11_crest G 0 krI (zE 111 (.istore 7) 2 :: zEk 113 (.iinc 8 1) 3 w113 :: es) σ [vR 11 0, vI x1, vI x2, vI x3, vI x4, vI x5, vI x6, y7, vI x8, y9] [vI xs0] = zev cc_X11_crest G 0 krI es σ [vR 11 0, vI x1, vI x2, vI x3, vI x4, vI x5, vI x6, vI xs0, vI (x8 + w113), y9] [] := rfl
theorem t_X11_crest_119 {G : Nat → zH → List zAV → List zAV → Option (zH × Int32)} (es : List zEnt) (σ : zH) (x5 : Int32) (x6 : Int32) (x7 : Int32) (y0 : zAV) (y1 : zAV) (y2 : zAV) (y3 : zAV) (y4 : zAV) (y8 : zAV) (y9 : zAV)  : zev cc_X11_crest G 0 krI (zE 119 (.iload 5) 2 :: es) σ [y0, y1, y2, y3, y4, vI x5, vI x6, vI x7, y8, y9] [] = zev cc_X11_crest G 0 krI es σ [y0, y1, y2, y3, y4, vI x5, vI x6, vI x7, y8, y9] [vI x5] := rfl
theorem t_X11_crest_124 {G : Nat → zH → List zAV → List zAV → Option (zH × Int32)} (es : List zEnt) (σ : zH) (x6 : Int32) (y0 : zAV) (y1 : zAV) (y2 : zAV) (y3 : zAV) (y4 : zAV) (y5 : zAV) (y7 : zAV) (y8 : zAV) (y9 : zAV)  : zev cc_X11_crest G 0 krI (zE 124 (.iload 6) 2 :: es) σ [y0, y1, y2, y3, y4, y5, vI x6, y7, y8, y9] [] = zev cc_X11_crest G 0 krI es σ [y0, y1, y2, y3, y4, y5, vI x6, y7, y8, y9] [vI x6] := rfl
theorem t_X11_crest_129 {G : Nat → zH → List zAV → List zAV → Option (zH × Int32)} (es : List zEnt) (σ : zH) (x7 : Int32) (y0 : zAV) (y1 : zAV) (y2 : zAV) (y3 : zAV) (y4 : zAV) (y5 : zAV) (y6 : zAV) (y8 : zAV) (y9 : zAV)  : zev cc_X11_crest G 0 krI (zE 129 (.iload 7) 2 :: es) σ [y0, y1, y2, y3, y4, y5, y6, vI x7, y8, y9] [] = zev cc_X11_crest G 0 krI es σ [y0, y1, y2, y3, y4, y5, y6, vI x7, y8, y9] [vI x7] := rfl
noncomputable def j_X11_crest_111 (c63 : zH → Int32 → Int32 → Int32 → Int32 → Int32 → Int32 → Int32 → Int32 → Option (zH × Int32)) (σ : zH) (x1 : Int32) (x2 : Int32) (x3 : Int32) (x4 : Int32) (x5 : Int32) (x6 : Int32) (x8 : Int32) (xs0 : Int32) : Option (zH × Int32) :=
  c63 σ x1 x2 x3 x4 x5 x6 xs0 (x8 + (1 : Int32))
theorem e_X11_crest_111 (c63 : zH → Int32 → Int32 → Int32 → Int32 → Int32 → Int32 → Int32 → Int32 → Option (zH × Int32)) (σ : zH) (x1 : Int32) (x2 : Int32) (x3 : Int32) (x4 : Int32) (x5 : Int32) (x6 : Int32) (x8 : Int32) (xs0 : Int32) (y7 : zAV) (y9 : zAV) : j_X11_crest_111 c63 σ x1 x2 x3 x4 x5 x6 x8 xs0 = zin cc_X11_crest (fun t => if t = 63 then some (gl_X11_crest_63 c63) else none) 0 krI b_X11_crest 111 σ [vR 11 0, vI x1, vI x2, vI x3, vI x4, vI x5, vI x6, y7, vI x8, y9] [vI xs0] := by
  unfold j_X11_crest_111
  refine Eq.symm ((zin_b (es := q_X11_crest_111) rfl).trans ?_)
  refine (t_X11_crest_111 _ _ _ _ _ _ _ _ _ _ _ _ _).trans ?_
  refine x_goto.trans ?_
  exact (zrun_c rfl).trans (glr_X11_crest_63 _ _ _ _ _ _ _ _ _ _ _)
theorem s_X11_crest_111 {X : zX} (hX : zHX X) {c63 : zH → Int32 → Int32 → Int32 → Int32 → Int32 → Int32 → Int32 → Int32 → Option (zH × Int32)} (h63 : ∀ σ L st r, gl_X11_crest_63 c63 σ L st = some r → zGW X 197 krI 63 σ L st r) : ∀ σ L st r, gl_X11_crest_111 (j_X11_crest_111 c63) σ L st = some r → zGW X 197 krI 111 σ L st r := by
  intro σ L st r h
  unfold gl_X11_crest_111 at h
  split at h
  · exact zin_ok (hy_X11_crest hX) bk_X11_crest (fun t f hf => by
    by_cases e63 : t = 63
    · rw [if_pos e63] at hf; subst e63; cases hf; exact h63
    rw [if_neg e63] at hf
    cases hf) ((e_X11_crest_111 _ _ _ _ _ _ _ _ _ _ _ _).symm.trans h)
  · cases h
noncomputable def j_X11_crest_95 (c63 : zH → Int32 → Int32 → Int32 → Int32 → Int32 → Int32 → Int32 → Int32 → Option (zH × Int32)) (σ : zH) (x1 : Int32) (x2 : Int32) (x3 : Int32) (x4 : Int32) (x5 : Int32) (x7 : Int32) (x8 : Int32) (x9 : Int32) (xs0 : Int32) : Option (zH × Int32) :=
  if x7 < x9 then
    (j_X11_crest_111 c63) σ x1 x2 x3 x4 x5 xs0 x8 x9
  else
    (j_X11_crest_111 c63) σ x1 x2 x3 x4 x5 xs0 x8 x7
theorem e_X11_crest_95 (c63 : zH → Int32 → Int32 → Int32 → Int32 → Int32 → Int32 → Int32 → Int32 → Option (zH × Int32)) (σ : zH) (x1 : Int32) (x2 : Int32) (x3 : Int32) (x4 : Int32) (x5 : Int32) (x7 : Int32) (x8 : Int32) (x9 : Int32) (xs0 : Int32) (y6 : zAV) : j_X11_crest_95 c63 σ x1 x2 x3 x4 x5 x7 x8 x9 xs0 = zin cc_X11_crest (fun t => if t = 111 then some (gl_X11_crest_111 (j_X11_crest_111 c63)) else none) 0 krI b_X11_crest 95 σ [vR 11 0, vI x1, vI x2, vI x3, vI x4, vI x5, y6, vI x7, vI x8, vI x9] [vI xs0] := by
  unfold j_X11_crest_95
  refine Eq.symm ((zin_b (es := q_X11_crest_95) rfl).trans ?_)
  refine (t_X11_crest_95 _ _ _ _ _ _ _ _ _ _ _ _).trans ?_
  refine x_icmp.trans (pif_le ?_ ?_)
  · refine (zrun_b (es := q_X11_crest_109) rfl rfl).trans ?_
    refine (t_X11_crest_109 _ _ _ _ _ _ _ _ _ _ _).trans ?_
    refine x_cut.trans ?_
    exact (zrun_c rfl).trans (glr_X11_crest_111 _ _ _ _ _ _ _ _ _ _ _ _)
  · refine (t_X11_crest_104 _ _ _ _ _ _ _ _ _ _ _).trans ?_
    refine x_goto.trans ?_
    exact (zrun_c rfl).trans (glr_X11_crest_111 _ _ _ _ _ _ _ _ _ _ _ _)
theorem s_X11_crest_95 {X : zX} (hX : zHX X) {c63 : zH → Int32 → Int32 → Int32 → Int32 → Int32 → Int32 → Int32 → Int32 → Option (zH × Int32)} (h63 : ∀ σ L st r, gl_X11_crest_63 c63 σ L st = some r → zGW X 197 krI 63 σ L st r) : ∀ σ L st r, gl_X11_crest_95 (j_X11_crest_95 c63) σ L st = some r → zGW X 197 krI 95 σ L st r := by
  intro σ L st r h
  unfold gl_X11_crest_95 at h
  split at h
  · exact zin_ok (hy_X11_crest hX) bk_X11_crest (fun t f hf => by
    by_cases e111 : t = 111
    · rw [if_pos e111] at hf; subst e111; cases hf; exact (s_X11_crest_111 hX h63)
    rw [if_neg e111] at hf
    cases hf) ((e_X11_crest_95 _ _ _ _ _ _ _ _ _ _ _ _).symm.trans h)
  · cases h
noncomputable def k_X11_crest_63 (c119 : zH → Int32 → Int32 → Int32 → Option (zH × Int32)) : Nat → zH → Int32 → Int32 → Int32 → Int32 → Int32 → Int32 → Int32 → Int32 → Option (zH × Int32)
  | 0, _, _, _, _, _, _, _, _, _ => none
  | n + 1, σ, x1, x2, x3, x4, x5, x6, x7, x8 =>
    if x8 < x4 then
      (d_X11_mutineers σ x1 x2 x8 x3).bind fun p1 =>
      if x7 < p1.2 then
        (j_X11_crest_95 (k_X11_crest_63 c119 n)) p1.1 x1 x2 x3 x4 x5 x7 x8 p1.2 x8
      else
        (j_X11_crest_95 (k_X11_crest_63 c119 n)) p1.1 x1 x2 x3 x4 x5 x7 x8 p1.2 x6
    else
      c119 σ x5 x6 x7
theorem e_X11_crest_63 (c119 : zH → Int32 → Int32 → Int32 → Option (zH × Int32)) (n : Nat) (σ : zH) (x1 : Int32) (x2 : Int32) (x3 : Int32) (x4 : Int32) (x5 : Int32) (x6 : Int32) (x7 : Int32) (x8 : Int32) (y9 : zAV) : k_X11_crest_63 c119 (n + 1) σ x1 x2 x3 x4 x5 x6 x7 x8 = zin cc_X11_crest (fun t => if t = 95 then some (gl_X11_crest_95 (j_X11_crest_95 (k_X11_crest_63 c119 n))) else if t = 119 then some (gl_X11_crest_119 c119) else none) 0 krI b_X11_crest 63 σ [vR 11 0, vI x1, vI x2, vI x3, vI x4, vI x5, vI x6, vI x7, vI x8, y9] [] := by
  rw [k_X11_crest_63]
  refine Eq.symm ((zin_b (es := q_X11_crest_63) rfl).trans ?_)
  refine (t_X11_crest_63 _ _ _ _ _ _ _ _ _ _ _).trans ?_
  refine x_icmp.trans (pif_ge ?_ ?_)
  · exact (zrun_c rfl).trans (glr_X11_crest_119 _ _ _ _ _ _ _ _ _ _ _ _)
  · refine (t_X11_crest_70 _ _ _ _ _ _ _ _ _ _ _).trans ?_
    refine (x_callV rfl rfl rfl rfl).trans ((cl_X11_crest_X11_mutineers _ _ _).trans ((gr_X11_mutineers _ _ _ _ _ _).trans (pbd fun _ => ?_)))
    refine (t_X11_crest_79 _ _ _ _ _ _ _ _ _ _ _ _).trans ?_
    refine x_icmp.trans (pif_le ?_ ?_)
    · refine (zrun_b (es := q_X11_crest_93) rfl rfl).trans ?_
      refine (t_X11_crest_93 _ _ _ _ _ _ _ _ _ _ _).trans ?_
      refine x_cut.trans ?_
      exact (zrun_c rfl).trans (glr_X11_crest_95 _ _ _ _ _ _ _ _ _ _ _ _)
    · refine (t_X11_crest_88 _ _ _ _ _ _ _ _ _ _ _).trans ?_
      refine x_goto.trans ?_
      exact (zrun_c rfl).trans (glr_X11_crest_95 _ _ _ _ _ _ _ _ _ _ _ _)
theorem s_X11_crest_63 {X : zX} (hX : zHX X) {c119 : zH → Int32 → Int32 → Int32 → Option (zH × Int32)} (h119 : ∀ σ L st r, gl_X11_crest_119 c119 σ L st = some r → zGW X 197 krI 119 σ L st r) : ∀ n σ L st r, gl_X11_crest_63 (k_X11_crest_63 c119 n) σ L st = some r → zGW X 197 krI 63 σ L st r := by
  intro n
  induction n with
  | zero =>
    intro σ L st r h
    unfold gl_X11_crest_63 at h
    split at h <;> cases h
  | succ n ih =>
    intro σ L st r h
    unfold gl_X11_crest_63 at h
    split at h
    · exact zin_ok (hy_X11_crest hX) bk_X11_crest (fun t f hf => by
      by_cases e95 : t = 95
      · rw [if_pos e95] at hf; subst e95; cases hf; exact (s_X11_crest_95 hX ih)
      rw [if_neg e95] at hf
      by_cases e119 : t = 119
      · rw [if_pos e119] at hf; subst e119; cases hf; exact h119
      rw [if_neg e119] at hf
      cases hf) ((e_X11_crest_63 _ _ _ _ _ _ _ _ _ _ _ _).symm.trans h)
    · cases h
noncomputable def j_X11_crest_119  (σ : zH) (x5 : Int32) (x6 : Int32) (x7 : Int32) : Option (zH × Int32) :=
  if x5 = 0 then
    some (σ, x6)
  else
    some (σ, x7)
theorem e_X11_crest_119  (σ : zH) (x5 : Int32) (x6 : Int32) (x7 : Int32) (y0 : zAV) (y1 : zAV) (y2 : zAV) (y3 : zAV) (y4 : zAV) (y8 : zAV) (y9 : zAV) : j_X11_crest_119 σ x5 x6 x7 = zin cc_X11_crest (fun t => none) 0 krI b_X11_crest 119 σ [y0, y1, y2, y3, y4, vI x5, vI x6, vI x7, y8, y9] [] := by
  unfold j_X11_crest_119
  refine Eq.symm ((zin_b (es := q_X11_crest_119) rfl).trans ?_)
  refine (t_X11_crest_119 _ _ _ _ _ _ _ _ _ _ _ _).trans ?_
  refine x_if.trans (pif_ne ?_ ?_)
  · refine (zrun_b (es := q_X11_crest_129) rfl rfl).trans ?_
    refine (t_X11_crest_129 _ _ _ _ _ _ _ _ _ _ _ _).trans ?_
    exact x_iret
  · refine (t_X11_crest_124 _ _ _ _ _ _ _ _ _ _ _ _).trans ?_
    refine x_goto.trans ?_
    refine (zrun_b (es := q_X11_crest_131) rfl rfl).trans ?_
    exact x_iret
theorem s_X11_crest_119 {X : zX} (hX : zHX X)   : ∀ σ L st r, gl_X11_crest_119 j_X11_crest_119 σ L st = some r → zGW X 197 krI 119 σ L st r := by
  intro σ L st r h
  unfold gl_X11_crest_119 at h
  split at h
  · exact zin_ok (hy_X11_crest hX) bk_X11_crest (fun t f hf => by
    cases hf) ((e_X11_crest_119 _ _ _ _ _ _ _ _ _ _ _).symm.trans h)
  · cases h
noncomputable def d_X11_crest (σ : zH) (xa1 : Int32) (xa2 : Int32) (xa3 : Int32) (xa4 : Int32) (xa5 : Int32) : Option (zH × Int32) :=
  (d_X11_isLaw σ xa1).bind fun p1 =>
  if p1.2 = 0 then
    some (p1.1, (-1 : Int32))
  else
    (d_X11_isCompany p1.1 xa2).bind fun p2 =>
    if p2.2 = 0 then
      some (p2.1, (-1 : Int32))
    else
      (d_X11_in p2.1 xa3.toInt64 (0 : Int64) (48 : Int64)).bind fun p3 =>
      if p3.2 = 0 then
        some (p3.1, (-1 : Int32))
      else
        (d_X11_in p3.1 xa4.toInt64 (1 : Int64) (96 : Int64)).bind fun p4 =>
        if p4.2 = 0 then
          some (p4.1, (-1 : Int32))
        else
          (d_X11_in p4.1 xa5.toInt64 (0 : Int64) (1 : Int64)).bind fun p5 =>
          if p5.2 = 0 then
            some (p5.1, (-1 : Int32))
          else
            (k_X11_crest_63 j_X11_crest_119 zN) p5.1 xa1 xa2 xa3 xa4 xa5 (0 : Int32) (-1 : Int32) (0 : Int32)
theorem e_X11_crest (σ : zH) (xa1 : Int32) (xa2 : Int32) (xa3 : Int32) (xa4 : Int32) (xa5 : Int32) : d_X11_crest σ xa1 xa2 xa3 xa4 xa5 = zin cc_X11_crest (fun t => if t = 63 then some (gl_X11_crest_63 (k_X11_crest_63 j_X11_crest_119 zN)) else none) 0 krI b_X11_crest 0 σ [vR 11 0, vI xa1, vI xa2, vI xa3, vI xa4, vI xa5, vU, vU, vU, vU] [] := by
  unfold d_X11_crest
  refine Eq.symm ((zin_b (es := q_X11_crest_0) rfl).trans ?_)
  refine (t_X11_crest_0 _ _ _ _ _ _ _ _ _ _ _).trans ?_
  refine (x_callV rfl rfl rfl rfl).trans ((cl_X11_crest_X11_isLaw _ _ _).trans ((gr_X11_isLaw _ _ _).trans (pbd fun _ => ?_)))
  refine x_if.trans (pif_eq ?_ ?_)
  · refine (zrun_b (es := q_X11_crest_52) rfl rfl).trans ?_
    refine (t_X11_crest_52 _ _ _ _ _ _ _ _ _ _ _ _ _).trans ?_
    exact x_iret
  · refine (t_X11_crest_8 _ _ _ _ _ _ _ _ _ _ _).trans ?_
    refine (x_callV rfl rfl rfl rfl).trans ((cl_X11_crest_X11_isCompany _ _ _).trans ((gr_X11_isCompany _ _ _).trans (pbd fun _ => ?_)))
    refine x_if.trans (pif_eq ?_ ?_)
    · refine (zrun_b (es := q_X11_crest_52) rfl rfl).trans ?_
      refine (t_X11_crest_52 _ _ _ _ _ _ _ _ _ _ _ _ _).trans ?_
      exact x_iret
    · refine (t_X11_crest_16 _ _ _ _ _ _ _ _ _ _ _ _ _).trans ?_
      refine (x_callS rfl rfl rfl rfl).trans ((cl_X11_crest_X11_in _ _ _).trans ((gr_X11_in _ _ _ _ _).trans (pbd fun _ => ?_)))
      refine x_if.trans (pif_eq ?_ ?_)
      · refine (zrun_b (es := q_X11_crest_52) rfl rfl).trans ?_
        refine (t_X11_crest_52 _ _ _ _ _ _ _ _ _ _ _ _ _).trans ?_
        exact x_iret
      · refine (t_X11_crest_28 _ _ _ _ _ _ _ _ _ _ _ _ _).trans ?_
        refine (x_callS rfl rfl rfl rfl).trans ((cl_X11_crest_X11_in _ _ _).trans ((gr_X11_in _ _ _ _ _).trans (pbd fun _ => ?_)))
        refine x_if.trans (pif_eq ?_ ?_)
        · refine (zrun_b (es := q_X11_crest_52) rfl rfl).trans ?_
          refine (t_X11_crest_52 _ _ _ _ _ _ _ _ _ _ _ _ _).trans ?_
          exact x_iret
        · refine (t_X11_crest_41 _ _ _ _ _ _ _ _ _ _ _ _ _).trans ?_
          refine (x_callS rfl rfl rfl rfl).trans ((cl_X11_crest_X11_in _ _ _).trans ((gr_X11_in _ _ _ _ _).trans (pbd fun _ => ?_)))
          refine x_if.trans (pif_ne ?_ ?_)
          · refine (zrun_b (es := q_X11_crest_54) rfl rfl).trans ?_
            refine (t_X11_crest_54 _ _ _ _ _ _ _ _ _ _ _ _ _ _).trans ?_
            refine x_cut.trans ?_
            exact (zrun_c rfl).trans (glr_X11_crest_63 _ _ _ _ _ _ _ _ _ _ _)
          · refine (t_X11_crest_52 _ _ _ _ _ _ _ _ _ _ _ _ _).trans ?_
            exact x_iret
noncomputable def g_X11_crest {ρ : Type} (σ : zH) (av : List zAV) (q : zH → zAV → Option ρ) : Option ρ := match av with
  | [.inr (.inr (.inl (11, 0))), .inl xa1, .inl xa2, .inl xa3, .inl xa4, .inl xa5] => (d_X11_crest σ xa1 xa2 xa3 xa4 xa5).bind fun p => q p.1 (vI p.2)
  | _ => none
theorem gr_X11_crest {ρ : Type} (σ : zH) (xa1 : Int32) (xa2 : Int32) (xa3 : Int32) (xa4 : Int32) (xa5 : Int32) (q : zH → zAV → Option ρ) : g_X11_crest σ [vR 11 0, vI xa1, vI xa2, vI xa3, vI xa4, vI xa5] q = (d_X11_crest σ xa1 xa2 xa3 xa4 xa5).bind fun p => q p.1 (vI p.2) := rfl
theorem c_X11_crest {ρ : Type} {X : zX} (hX : zHX X) {σ : zH} {av : List zAV} {q : zH → zAV → Option ρ} {r : ρ} (h : g_X11_crest σ av q = some r) (hv : ∀ a ∈ av, zval X a) : zcon X 197 σ av q r := by
  unfold g_X11_crest at h
  split at h
  · exact zcon_I (n := 197) (ml := 10) (rc := 0) (st := 0) (kd := 11) (np := 5) (by decide +kernel) (by decide) ⟨_, _, rfl, rfl⟩ (Nat.le_of_ble_eq_true rfl) hv h (fun y h1 => (zin_ok (hy_X11_crest hX) bk_X11_crest (fun t f hf => by
      by_cases e63 : t = 63
      · rw [if_pos e63] at hf; subst e63; cases hf; exact ((fun σ L st r h => s_X11_crest_63 hX (s_X11_crest_119 hX) zN σ L st r h))
      rw [if_neg e63] at hf
      cases hf) ((e_X11_crest _ _ _ _ _ _).symm.trans h1)))
  · cases h
/-! SleepWavesModel.tellsOn(I)I -/
def q_X11_tellsOn_0 : List zEnt := zE 0 (.iload_n 1) 1 :: zE 1 (.istore_n 2) 1 :: zEk 2 (.iconst 0) 1 0 :: zE 3 (.istore_n 3) 1 :: [zE 4 .nop 0]
def q_X11_tellsOn_14 : List zEnt := zEk 14 (.iconst 0) 1 0 :: zE 15 (.istore 4) 2 :: [zE 17 .nop 0]
def q_X11_tellsOn_11 : List zEnt := zEa 11 (.if_icmp .ge 83) 3 94 :: q_X11_tellsOn_14
def q_X11_tellsOn_10 : List zEnt := zE 10 .iaload 1 :: q_X11_tellsOn_11
def q_X11_tellsOn_4 : List zEnt := zE 4 (.iload_n 3) 1 :: zE 5 (.aload_n 0) 1 :: zEf 6 (.getfield 7) 3 11 1 149 (2, 42, 0) :: zEk 9 (.iconst 0) 1 0 :: q_X11_tellsOn_10
def q_X11_tellsOn_76 : List zEnt := zEa 76 (.goto 4) 3 80 :: []
def q_X11_tellsOn_72 : List zEnt := zEk 72 (.iconst 1) 1 1 :: zE 73 (.iload 4) 2 :: zE 75 .ishl 1 :: q_X11_tellsOn_76
def q_X11_tellsOn_69 : List zEnt := zEa 69 (.if_icmp .ne 10) 3 79 :: q_X11_tellsOn_72
def q_X11_tellsOn_68 : List zEnt := zE 68 .iaload 1 :: q_X11_tellsOn_69
def q_X11_tellsOn_63 : List zEnt := zE 63 (.aload_n 0) 1 :: zEf 64 (.getfield 16) 3 11 3 151 (2, 44, 0) :: zE 67 (.iload_n 3) 1 :: q_X11_tellsOn_68
def q_X11_tellsOn_62 : List zEnt := zE 62 .iaload 1 :: q_X11_tellsOn_63
def q_X11_tellsOn_56 : List zEnt := zE 56 (.aload_n 0) 1 :: zEf 57 (.getfield 16) 3 11 3 151 (2, 44, 0) :: zE 60 (.iload 4) 2 :: q_X11_tellsOn_62
def q_X11_tellsOn_53 : List zEnt := zEa 53 (.ifCond .ne 26) 3 79 :: q_X11_tellsOn_56
def q_X11_tellsOn_52 : List zEnt := zE 52 .iaload 1 :: q_X11_tellsOn_53
def q_X11_tellsOn_46 : List zEnt := zE 46 (.aload_n 0) 1 :: zEf 47 (.getfield 70) 3 11 21 169 (2, 62, 0) :: zE 50 (.iload 4) 2 :: q_X11_tellsOn_52
def q_X11_tellsOn_43 : List zEnt := zEa 43 (.ifCond .ne 36) 3 79 :: q_X11_tellsOn_46
def q_X11_tellsOn_42 : List zEnt := zE 42 .iaload 1 :: q_X11_tellsOn_43
def q_X11_tellsOn_37 : List zEnt := zE 37 (.aload_n 0) 1 :: zEf 38 (.getfield 70) 3 11 21 169 (2, 62, 0) :: zE 41 (.iload_n 3) 1 :: q_X11_tellsOn_42
def q_X11_tellsOn_34 : List zEnt := zEa 34 (.ifCond .eq 45) 3 79 :: q_X11_tellsOn_37
def q_X11_tellsOn_31 : List zEnt := zEc 31 (.invokestatic 177) 3 126 2 154 0 :: q_X11_tellsOn_34
def q_X11_tellsOn_28 : List zEnt := zE 28 (.iload_n 2) 1 :: zE 29 (.iload_n 1) 1 :: zE 30 (.iload_n 3) 1 :: q_X11_tellsOn_31
def q_X11_tellsOn_25 : List zEnt := zEa 25 (.if_icmp .ge 63) 3 88 :: q_X11_tellsOn_28
def q_X11_tellsOn_24 : List zEnt := zE 24 .iaload 1 :: q_X11_tellsOn_25
def q_X11_tellsOn_17 : List zEnt := zE 17 (.iload 4) 2 :: zE 19 (.aload_n 0) 1 :: zEf 20 (.getfield 7) 3 11 1 149 (2, 42, 0) :: zEk 23 (.iconst 0) 1 0 :: q_X11_tellsOn_24
def q_X11_tellsOn_79 : List zEnt := zEk 79 (.iconst 0) 1 0 :: [zE 80 .nop 0]
def q_X11_tellsOn_85 : List zEnt := zEa 85 (.goto (-68)) 3 17 :: []
def q_X11_tellsOn_80 : List zEnt := zE 80 .ior 1 :: zE 81 (.istore_n 2) 1 :: zEk 82 (.iinc 4 1) 3 1 :: q_X11_tellsOn_85
def q_X11_tellsOn_91 : List zEnt := zEa 91 (.goto (-87)) 3 4 :: []
def q_X11_tellsOn_88 : List zEnt := zEk 88 (.iinc 3 1) 3 1 :: q_X11_tellsOn_91
def q_X11_tellsOn_94 : List zEnt := zE 94 (.iload_n 2) 1 :: zE 95 (.istore_n 3) 1 :: zEk 96 (.iconst 0) 1 0 :: zE 97 (.istore 4) 2 :: [zE 99 .nop 0]
def q_X11_tellsOn_110 : List zEnt := zEk 110 (.iconst 0) 1 0 :: zE 111 (.istore 5) 2 :: [zE 113 .nop 0]
def q_X11_tellsOn_107 : List zEnt := zEa 107 (.if_icmp .ge 66) 3 173 :: q_X11_tellsOn_110
def q_X11_tellsOn_106 : List zEnt := zE 106 .iaload 1 :: q_X11_tellsOn_107
def q_X11_tellsOn_99 : List zEnt := zE 99 (.iload 4) 2 :: zE 101 (.aload_n 0) 1 :: zEf 102 (.getfield 7) 3 11 1 149 (2, 42, 0) :: zEk 105 (.iconst 0) 1 0 :: q_X11_tellsOn_106
def q_X11_tellsOn_155 : List zEnt := zEa 155 (.goto 4) 3 159 :: []
def q_X11_tellsOn_151 : List zEnt := zEk 151 (.iconst 1) 1 1 :: zE 152 (.iload 5) 2 :: zE 154 .ishl 1 :: q_X11_tellsOn_155
def q_X11_tellsOn_148 : List zEnt := zEa 148 (.if_icmp .ne 10) 3 158 :: q_X11_tellsOn_151
def q_X11_tellsOn_147 : List zEnt := zE 147 .iaload 1 :: q_X11_tellsOn_148
def q_X11_tellsOn_141 : List zEnt := zE 141 (.aload_n 0) 1 :: zEf 142 (.getfield 19) 3 11 4 152 (2, 45, 0) :: zE 145 (.iload 4) 2 :: q_X11_tellsOn_147
def q_X11_tellsOn_140 : List zEnt := zE 140 .iaload 1 :: q_X11_tellsOn_141
def q_X11_tellsOn_134 : List zEnt := zE 134 (.aload_n 0) 1 :: zEf 135 (.getfield 19) 3 11 4 152 (2, 45, 0) :: zE 138 (.iload 5) 2 :: q_X11_tellsOn_140
def q_X11_tellsOn_131 : List zEnt := zEa 131 (.ifCond .eq 27) 3 158 :: q_X11_tellsOn_134
def q_X11_tellsOn_128 : List zEnt := zEc 128 (.invokestatic 177) 3 126 2 154 0 :: q_X11_tellsOn_131
def q_X11_tellsOn_124 : List zEnt := zE 124 (.iload_n 3) 1 :: zE 125 (.iload_n 2) 1 :: zE 126 (.iload 4) 2 :: q_X11_tellsOn_128
def q_X11_tellsOn_121 : List zEnt := zEa 121 (.if_icmp .ge 46) 3 167 :: q_X11_tellsOn_124
def q_X11_tellsOn_120 : List zEnt := zE 120 .iaload 1 :: q_X11_tellsOn_121
def q_X11_tellsOn_113 : List zEnt := zE 113 (.iload 5) 2 :: zE 115 (.aload_n 0) 1 :: zEf 116 (.getfield 7) 3 11 1 149 (2, 42, 0) :: zEk 119 (.iconst 0) 1 0 :: q_X11_tellsOn_120
def q_X11_tellsOn_158 : List zEnt := zEk 158 (.iconst 0) 1 0 :: [zE 159 .nop 0]
def q_X11_tellsOn_164 : List zEnt := zEa 164 (.goto (-51)) 3 113 :: []
def q_X11_tellsOn_159 : List zEnt := zE 159 .ior 1 :: zE 160 (.istore_n 3) 1 :: zEk 161 (.iinc 5 1) 3 1 :: q_X11_tellsOn_164
def q_X11_tellsOn_170 : List zEnt := zEa 170 (.goto (-71)) 3 99 :: []
def q_X11_tellsOn_167 : List zEnt := zEk 167 (.iinc 4 1) 3 1 :: q_X11_tellsOn_170
def q_X11_tellsOn_174 : List zEnt := zE 174 .ireturn 1 :: []
def q_X11_tellsOn_173 : List zEnt := zE 173 (.iload_n 3) 1 :: q_X11_tellsOn_174
def b_X11_tellsOn : List (Nat × List zEnt) := [(0, q_X11_tellsOn_0), (4, q_X11_tellsOn_4), (17, q_X11_tellsOn_17), (79, q_X11_tellsOn_79), (80, q_X11_tellsOn_80), (88, q_X11_tellsOn_88), (94, q_X11_tellsOn_94), (99, q_X11_tellsOn_99), (113, q_X11_tellsOn_113), (158, q_X11_tellsOn_158), (159, q_X11_tellsOn_159), (167, q_X11_tellsOn_167), (173, q_X11_tellsOn_173)]
theorem bk_X11_tellsOn : zchB 198 b_X11_tellsOn = true := by decide +kernel
noncomputable def cc_X11_tellsOn {ρ : Type} : Nat → zH → List zAV → (zH → zAV → Option ρ) → Option ρ := fun n σ av q => if n = 126 then g_X11_has σ av q else none
theorem cs_X11_tellsOn {ρ : Type} {X : zX} (hX : zHX X) : zCS X (cc_X11_tellsOn (ρ := ρ)) := by
  intro n σ av q r h hv
  unfold cc_X11_tellsOn at h
  by_cases e_X11_has : n = 126
  · rw [if_pos e_X11_has] at h
    subst e_X11_has
    exact c_X11_has hX h hv
  rw [if_neg e_X11_has] at h
  cases h
theorem cl_X11_tellsOn_X11_has {ρ : Type} (σ : zH) (av : List zAV) (q : zH → zAV → Option ρ) : cc_X11_tellsOn 126 σ av q = g_X11_has σ av q := rfl
theorem hy_X11_tellsOn {ρ : Type} {X : zX} (hX : zHX X) : zHY X 198 (cc_X11_tellsOn (ρ := ρ)) := zHX.hY hX (cs_X11_tellsOn hX) (zmok_all 198 (by decide))
def gl_X11_tellsOn_4 {ρ : Type} (f : zH → Int32 → Int32 → Int32 → Option ρ) (σ : zH) (L st : List zAV) : Option ρ := match L, st with
  | [.inr (.inr (.inl (11, 0))), .inl x1, .inl x2, .inl x3, _, _], [] => f σ x1 x2 x3
  | _, _ => none
def gl_X11_tellsOn_17 {ρ : Type} (f : zH → Int32 → Int32 → Int32 → Int32 → Option ρ) (σ : zH) (L st : List zAV) : Option ρ := match L, st with
  | [.inr (.inr (.inl (11, 0))), .inl x1, .inl x2, .inl x3, .inl x4, _], [] => f σ x1 x2 x3 x4
  | _, _ => none
def gl_X11_tellsOn_79 {ρ : Type} (f : zH → Int32 → Int32 → Int32 → Int32 → Option ρ) (σ : zH) (L st : List zAV) : Option ρ := match L, st with
  | [.inr (.inr (.inl (11, 0))), .inl x1, _, .inl x3, .inl x4, _], [.inl xs0] => f σ x1 x3 x4 xs0
  | _, _ => none
def gl_X11_tellsOn_80 {ρ : Type} (f : zH → Int32 → Int32 → Int32 → Int32 → Int32 → Option ρ) (σ : zH) (L st : List zAV) : Option ρ := match L, st with
  | [.inr (.inr (.inl (11, 0))), .inl x1, _, .inl x3, .inl x4, _], [.inl xs1, .inl xs0] => f σ x1 x3 x4 xs0 xs1
  | _, _ => none
def gl_X11_tellsOn_88 {ρ : Type} (f : zH → Int32 → Int32 → Int32 → Option ρ) (σ : zH) (L st : List zAV) : Option ρ := match L, st with
  | [.inr (.inr (.inl (11, 0))), .inl x1, .inl x2, .inl x3, _, _], [] => f σ x1 x2 x3
  | _, _ => none
def gl_X11_tellsOn_94 {ρ : Type} (f : zH → Int32 → Option ρ) (σ : zH) (L st : List zAV) : Option ρ := match L, st with
  | [.inr (.inr (.inl (11, 0))), _, .inl x2, _, _, _], [] => f σ x2
  | _, _ => none
def gl_X11_tellsOn_99 {ρ : Type} (f : zH → Int32 → Int32 → Int32 → Option ρ) (σ : zH) (L st : List zAV) : Option ρ := match L, st with
  | [.inr (.inr (.inl (11, 0))), _, .inl x2, .inl x3, .inl x4, _], [] => f σ x2 x3 x4
  | _, _ => none
def gl_X11_tellsOn_113 {ρ : Type} (f : zH → Int32 → Int32 → Int32 → Int32 → Option ρ) (σ : zH) (L st : List zAV) : Option ρ := match L, st with
  | [.inr (.inr (.inl (11, 0))), _, .inl x2, .inl x3, .inl x4, .inl x5], [] => f σ x2 x3 x4 x5
  | _, _ => none
def gl_X11_tellsOn_158 {ρ : Type} (f : zH → Int32 → Int32 → Int32 → Int32 → Option ρ) (σ : zH) (L st : List zAV) : Option ρ := match L, st with
  | [.inr (.inr (.inl (11, 0))), _, .inl x2, _, .inl x4, .inl x5], [.inl xs0] => f σ x2 x4 x5 xs0
  | _, _ => none
def gl_X11_tellsOn_159 {ρ : Type} (f : zH → Int32 → Int32 → Int32 → Int32 → Int32 → Option ρ) (σ : zH) (L st : List zAV) : Option ρ := match L, st with
  | [.inr (.inr (.inl (11, 0))), _, .inl x2, _, .inl x4, .inl x5], [.inl xs1, .inl xs0] => f σ x2 x4 x5 xs0 xs1
  | _, _ => none
def gl_X11_tellsOn_167 {ρ : Type} (f : zH → Int32 → Int32 → Int32 → Option ρ) (σ : zH) (L st : List zAV) : Option ρ := match L, st with
  | [.inr (.inr (.inl (11, 0))), _, .inl x2, .inl x3, .inl x4, _], [] => f σ x2 x3 x4
  | _, _ => none
theorem glr_X11_tellsOn_4 {ρ : Type} (f : zH → Int32 → Int32 → Int32 → Option ρ) (σ : zH) (x1 : Int32) (x2 : Int32) (x3 : Int32) (y4 : zAV) (y5 : zAV) : gl_X11_tellsOn_4 f σ [vR 11 0, vI x1, vI x2, vI x3, y4, y5] [] = f σ x1 x2 x3 := rfl
theorem glr_X11_tellsOn_17 {ρ : Type} (f : zH → Int32 → Int32 → Int32 → Int32 → Option ρ) (σ : zH) (x1 : Int32) (x2 : Int32) (x3 : Int32) (x4 : Int32) (y5 : zAV) : gl_X11_tellsOn_17 f σ [vR 11 0, vI x1, vI x2, vI x3, vI x4, y5] [] = f σ x1 x2 x3 x4 := rfl
theorem glr_X11_tellsOn_79 {ρ : Type} (f : zH → Int32 → Int32 → Int32 → Int32 → Option ρ) (σ : zH) (x1 : Int32) (x3 : Int32) (x4 : Int32) (xs0 : Int32) (y2 : zAV) (y5 : zAV) : gl_X11_tellsOn_79 f σ [vR 11 0, vI x1, y2, vI x3, vI x4, y5] [vI xs0] = f σ x1 x3 x4 xs0 := rfl
theorem glr_X11_tellsOn_80 {ρ : Type} (f : zH → Int32 → Int32 → Int32 → Int32 → Int32 → Option ρ) (σ : zH) (x1 : Int32) (x3 : Int32) (x4 : Int32) (xs0 : Int32) (xs1 : Int32) (y2 : zAV) (y5 : zAV) : gl_X11_tellsOn_80 f σ [vR 11 0, vI x1, y2, vI x3, vI x4, y5] [vI xs1, vI xs0] = f σ x1 x3 x4 xs0 xs1 := rfl
theorem glr_X11_tellsOn_88 {ρ : Type} (f : zH → Int32 → Int32 → Int32 → Option ρ) (σ : zH) (x1 : Int32) (x2 : Int32) (x3 : Int32) (y4 : zAV) (y5 : zAV) : gl_X11_tellsOn_88 f σ [vR 11 0, vI x1, vI x2, vI x3, y4, y5] [] = f σ x1 x2 x3 := rfl
theorem glr_X11_tellsOn_94 {ρ : Type} (f : zH → Int32 → Option ρ) (σ : zH) (x2 : Int32) (y1 : zAV) (y3 : zAV) (y4 : zAV) (y5 : zAV) : gl_X11_tellsOn_94 f σ [vR 11 0, y1, vI x2, y3, y4, y5] [] = f σ x2 := rfl
theorem glr_X11_tellsOn_99 {ρ : Type} (f : zH → Int32 → Int32 → Int32 → Option ρ) (σ : zH) (x2 : Int32) (x3 : Int32) (x4 : Int32) (y1 : zAV) (y5 : zAV) : gl_X11_tellsOn_99 f σ [vR 11 0, y1, vI x2, vI x3, vI x4, y5] [] = f σ x2 x3 x4 := rfl
theorem glr_X11_tellsOn_113 {ρ : Type} (f : zH → Int32 → Int32 → Int32 → Int32 → Option ρ) (σ : zH) (x2 : Int32) (x3 : Int32) (x4 : Int32) (x5 : Int32) (y1 : zAV) : gl_X11_tellsOn_113 f σ [vR 11 0, y1, vI x2, vI x3, vI x4, vI x5] [] = f σ x2 x3 x4 x5 := rfl
theorem glr_X11_tellsOn_158 {ρ : Type} (f : zH → Int32 → Int32 → Int32 → Int32 → Option ρ) (σ : zH) (x2 : Int32) (x4 : Int32) (x5 : Int32) (xs0 : Int32) (y1 : zAV) (y3 : zAV) : gl_X11_tellsOn_158 f σ [vR 11 0, y1, vI x2, y3, vI x4, vI x5] [vI xs0] = f σ x2 x4 x5 xs0 := rfl
theorem glr_X11_tellsOn_159 {ρ : Type} (f : zH → Int32 → Int32 → Int32 → Int32 → Int32 → Option ρ) (σ : zH) (x2 : Int32) (x4 : Int32) (x5 : Int32) (xs0 : Int32) (xs1 : Int32) (y1 : zAV) (y3 : zAV) : gl_X11_tellsOn_159 f σ [vR 11 0, y1, vI x2, y3, vI x4, vI x5] [vI xs1, vI xs0] = f σ x2 x4 x5 xs0 xs1 := rfl
theorem glr_X11_tellsOn_167 {ρ : Type} (f : zH → Int32 → Int32 → Int32 → Option ρ) (σ : zH) (x2 : Int32) (x3 : Int32) (x4 : Int32) (y1 : zAV) (y5 : zAV) : gl_X11_tellsOn_167 f σ [vR 11 0, y1, vI x2, vI x3, vI x4, y5] [] = f σ x2 x3 x4 := rfl
theorem t_X11_tellsOn_0 {G : Nat → zH → List zAV → List zAV → Option (zH × Int32)} (es : List zEnt) (σ : zH) (x1 : Int32) (y2 : zAV) (y3 : zAV) (y4 : zAV) (y5 : zAV) (w2 : Int32) : zev cc_X11_tellsOn G 0 krI (zE 0 (.iload_n 1) 1 :: zE 1 (.istore_n 2) 1 :: zEk 2 (.iconst 0) 1 w2 :: zE 3 (.istore_n 3) 1 :: es) σ [vR 11 0, vI x1, y2, y3, y4, y5] [] = zev cc_X11_tellsOn G 0 krI es σ [vR 11 0, vI x1, vI x1, vI w2, y4, y5] [] := rfl
theorem t_X11_tellsOn_4 {G : Nat → zH → List zAV → List zAV → Option (zH × Int32)} (es : List zEnt) (σ : zH) (x1 : Int32) (x2 : Int32) (x3 : Int32) (y4 : zAV) (y5 : zAV) (w9 : Int32) : zev cc_X11_tellsOn G 0 krI (zE 4 (.iload_n 3) 1 :: zE 5 (.aload_n 0) 1 :: zEf 6 (.getfield 7) 3 11 1 149 (2, 42, 0) :: zEk 9 (.iconst 0) 1 w9 :: es) σ [vR 11 0, vI x1, vI x2, vI x3, y4, y5] [] = zev cc_X11_tellsOn G 0 krI es σ [vR 11 0, vI x1, vI x2, vI x3, y4, y5] [vI w9, vR 42 0, vI x3] := rfl
theorem t_X11_tellsOn_14 {G : Nat → zH → List zAV → List zAV → Option (zH × Int32)} (es : List zEnt) (σ : zH) (x1 : Int32) (x2 : Int32) (x3 : Int32) (y4 : zAV) (y5 : zAV) (w14 : Int32) : zev cc_X11_tellsOn G 0 krI (zEk 14 (.iconst 0) 1 w14 :: zE 15 (.istore 4) 2 :: es) σ [vR 11 0, vI x1, vI x2, vI x3, y4, y5] [] = zev cc_X11_tellsOn G 0 krI es σ [vR 11 0, vI x1, vI x2, vI x3, vI w14, y5] [] := rfl
theorem t_X11_tellsOn_17 {G : Nat → zH → List zAV → List zAV → Option (zH × Int32)} (es : List zEnt) (σ : zH) (x1 : Int32) (x2 : Int32) (x3 : Int32) (x4 : Int32) (y5 : zAV) (w23 : Int32) : zev cc_X11_tellsOn G 0 krI (zE 17 (.iload 4) 2 :: zE 19 (.aload_n 0) 1 :: zEf 20 (.getfield 7) 3 11 1 149 (2, 42, 0) :: zEk 23 (.iconst 0) 1 w23 :: es) σ [vR 11 0, vI x1, vI x2, vI x3, vI x4, y5] [] = zev cc_X11_tellsOn G 0 krI es σ [vR 11 0, vI x1, vI x2, vI x3, vI x4, y5] [vI w23, vR 42 0, vI x4] := rfl
theorem t_X11_tellsOn_28 {G : Nat → zH → List zAV → List zAV → Option (zH × Int32)} (es : List zEnt) (σ : zH) (x1 : Int32) (x2 : Int32) (x3 : Int32) (x4 : Int32) (y5 : zAV)  : zev cc_X11_tellsOn G 0 krI (zE 28 (.iload_n 2) 1 :: zE 29 (.iload_n 1) 1 :: zE 30 (.iload_n 3) 1 :: es) σ [vR 11 0, vI x1, vI x2, vI x3, vI x4, y5] [] = zev cc_X11_tellsOn G 0 krI es σ [vR 11 0, vI x1, vI x2, vI x3, vI x4, y5] [vI x3, vI x1, vI x2] := rfl
theorem t_X11_tellsOn_37 {G : Nat → zH → List zAV → List zAV → Option (zH × Int32)} (es : List zEnt) (σ : zH) (x1 : Int32) (x3 : Int32) (x4 : Int32) (xs0 : Int32) (y2 : zAV) (y5 : zAV)  : zev cc_X11_tellsOn G 0 krI (zE 37 (.aload_n 0) 1 :: zEf 38 (.getfield 70) 3 11 21 169 (2, 62, 0) :: zE 41 (.iload_n 3) 1 :: es) σ [vR 11 0, vI x1, y2, vI x3, vI x4, y5] [vI xs0] = zev cc_X11_tellsOn G 0 krI es σ [vR 11 0, vI x1, y2, vI x3, vI x4, y5] [vI x3, vR 62 0, vI xs0] := rfl
theorem t_X11_tellsOn_46 {G : Nat → zH → List zAV → List zAV → Option (zH × Int32)} (es : List zEnt) (σ : zH) (x1 : Int32) (x3 : Int32) (x4 : Int32) (xs0 : Int32) (y2 : zAV) (y5 : zAV)  : zev cc_X11_tellsOn G 0 krI (zE 46 (.aload_n 0) 1 :: zEf 47 (.getfield 70) 3 11 21 169 (2, 62, 0) :: zE 50 (.iload 4) 2 :: es) σ [vR 11 0, vI x1, y2, vI x3, vI x4, y5] [vI xs0] = zev cc_X11_tellsOn G 0 krI es σ [vR 11 0, vI x1, y2, vI x3, vI x4, y5] [vI x4, vR 62 0, vI xs0] := rfl
theorem t_X11_tellsOn_56 {G : Nat → zH → List zAV → List zAV → Option (zH × Int32)} (es : List zEnt) (σ : zH) (x1 : Int32) (x3 : Int32) (x4 : Int32) (xs0 : Int32) (y2 : zAV) (y5 : zAV)  : zev cc_X11_tellsOn G 0 krI (zE 56 (.aload_n 0) 1 :: zEf 57 (.getfield 16) 3 11 3 151 (2, 44, 0) :: zE 60 (.iload 4) 2 :: es) σ [vR 11 0, vI x1, y2, vI x3, vI x4, y5] [vI xs0] = zev cc_X11_tellsOn G 0 krI es σ [vR 11 0, vI x1, y2, vI x3, vI x4, y5] [vI x4, vR 44 0, vI xs0] := rfl
theorem t_X11_tellsOn_63 {G : Nat → zH → List zAV → List zAV → Option (zH × Int32)} (es : List zEnt) (σ : zH) (x1 : Int32) (x3 : Int32) (x4 : Int32) (xs0 : Int32) (xs1 : Int32) (y2 : zAV) (y5 : zAV)  : zev cc_X11_tellsOn G 0 krI (zE 63 (.aload_n 0) 1 :: zEf 64 (.getfield 16) 3 11 3 151 (2, 44, 0) :: zE 67 (.iload_n 3) 1 :: es) σ [vR 11 0, vI x1, y2, vI x3, vI x4, y5] [vI xs1, vI xs0] = zev cc_X11_tellsOn G 0 krI es σ [vR 11 0, vI x1, y2, vI x3, vI x4, y5] [vI x3, vR 44 0, vI xs1, vI xs0] := rfl
theorem t_X11_tellsOn_72 {G : Nat → zH → List zAV → List zAV → Option (zH × Int32)} (es : List zEnt) (σ : zH) (x1 : Int32) (x3 : Int32) (x4 : Int32) (xs0 : Int32) (y2 : zAV) (y5 : zAV) (w72 : Int32) : zev cc_X11_tellsOn G 0 krI (zEk 72 (.iconst 1) 1 w72 :: zE 73 (.iload 4) 2 :: zE 75 .ishl 1 :: es) σ [vR 11 0, vI x1, y2, vI x3, vI x4, y5] [vI xs0] = zev cc_X11_tellsOn G 0 krI es σ [vR 11 0, vI x1, y2, vI x3, vI x4, y5] [vI (w72 <<< (x4 &&& 31)), vI xs0] := rfl
theorem t_X11_tellsOn_79 {G : Nat → zH → List zAV → List zAV → Option (zH × Int32)} (es : List zEnt) (σ : zH) (x1 : Int32) (x3 : Int32) (x4 : Int32) (xs0 : Int32) (y2 : zAV) (y5 : zAV) (w79 : Int32) : zev cc_X11_tellsOn G 0 krI (zEk 79 (.iconst 0) 1 w79 :: es) σ [vR 11 0, vI x1, y2, vI x3, vI x4, y5] [vI xs0] = zev cc_X11_tellsOn G 0 krI es σ [vR 11 0, vI x1, y2, vI x3, vI x4, y5] [vI w79, vI xs0] := rfl
theorem t_X11_tellsOn_80 {G : Nat → zH → List zAV → List zAV → Option (zH × Int32)} (es : List zEnt) (σ : zH) (x1 : Int32) (x3 : Int32) (x4 : Int32) (xs0 : Int32) (xs1 : Int32) (y2 : zAV) (y5 : zAV) (w82 : Int32) : zev cc_X11_tellsOn G 0 krI (zE 80 .ior 1 :: zE 81 (.istore_n 2) 1 :: zEk 82 (.iinc 4 1) 3 w82 :: es) σ [vR 11 0, vI x1, y2, vI x3, vI x4, y5] [vI xs1, vI xs0] = zev cc_X11_tellsOn G 0 krI es σ [vR 11 0, vI x1, vI (xs0 ||| xs1), vI x3, vI (x4 + w82), y5] [] := rfl
theorem t_X11_tellsOn_88 {G : Nat → zH → List zAV → List zAV → Option (zH × Int32)} (es : List zEnt) (σ : zH) (x1 : Int32) (x2 : Int32) (x3 : Int32) (y4 : zAV) (y5 : zAV) (w88 : Int32) : zev cc_X11_tellsOn G 0 krI (zEk 88 (.iinc 3 1) 3 w88 :: es) σ [vR 11 0, vI x1, vI x2, vI x3, y4, y5] [] = zev cc_X11_tellsOn G 0 krI es σ [vR 11 0, vI x1, vI x2, vI (x3 + w88), y4, y5] [] := rfl
theorem t_X11_tellsOn_94 {G : Nat → zH → List zAV → List zAV → Option (zH × Int32)} (es : List zEnt) (σ : zH) (x2 : Int32) (y1 : zAV) (y3 : zAV) (y4 : zAV) (y5 : zAV) (w96 : Int32) : zev cc_X11_tellsOn G 0 krI (zE 94 (.iload_n 2) 1 :: zE 95 (.istore_n 3) 1 :: zEk 96 (.iconst 0) 1 w96 :: zE 97 (.istore 4) 2 :: es) σ [vR 11 0, y1, vI x2, y3, y4, y5] [] = zev cc_X11_tellsOn G 0 krI es σ [vR 11 0, y1, vI x2, vI x2, vI w96, y5] [] := rfl
theorem t_X11_tellsOn_99 {G : Nat → zH → List zAV → List zAV → Option (zH × Int32)} (es : List zEnt) (σ : zH) (x2 : Int32) (x3 : Int32) (x4 : Int32) (y1 : zAV) (y5 : zAV) (w105 : Int32) : zev cc_X11_tellsOn G 0 krI (zE 99 (.iload 4) 2 :: zE 101 (.aload_n 0) 1 :: zEf 102 (.getfield 7) 3 11 1 149 (2, 42, 0) :: zEk 105 (.iconst 0) 1 w105 :: es) σ [vR 11 0, y1, vI x2, vI x3, vI x4, y5] [] = zev cc_X11_tellsOn G 0 krI es σ [vR 11 0, y1, vI x2, vI x3, vI x4, y5] [vI w105, vR 42 0, vI x4] := rfl
theorem t_X11_tellsOn_110 {G : Nat → zH → List zAV → List zAV → Option (zH × Int32)} (es : List zEnt) (σ : zH) (x2 : Int32) (x3 : Int32) (x4 : Int32) (y1 : zAV) (y5 : zAV) (w110 : Int32) : zev cc_X11_tellsOn G 0 krI (zEk 110 (.iconst 0) 1 w110 :: zE 111 (.istore 5) 2 :: es) σ [vR 11 0, y1, vI x2, vI x3, vI x4, y5] [] = zev cc_X11_tellsOn G 0 krI es σ [vR 11 0, y1, vI x2, vI x3, vI x4, vI w110] [] := rfl
theorem t_X11_tellsOn_113 {G : Nat → zH → List zAV → List zAV → Option (zH × Int32)} (es : List zEnt) (σ : zH) (x2 : Int32) (x3 : Int32) (x4 : Int32) (x5 : Int32) (y1 : zAV) (w119 : Int32) : zev cc_X11_tellsOn G 0 krI (zE 113 (.iload 5) 2 :: zE 115 (.aload_n 0) 1 :: zEf 116 (.getfield 7) 3 11 1 149 (2, 42, 0) :: zEk 119 (.iconst 0) 1 w119 :: es) σ [vR 11 0, y1, vI x2, vI x3, vI x4, vI x5] [] = zev cc_X11_tellsOn G 0 krI es σ [vR 11 0, y1, vI x2, vI x3, vI x4, vI x5] [vI w119, vR 42 0, vI x5] := rfl
theorem t_X11_tellsOn_124 {G : Nat → zH → List zAV → List zAV → Option (zH × Int32)} (es : List zEnt) (σ : zH) (x2 : Int32) (x3 : Int32) (x4 : Int32) (x5 : Int32) (y1 : zAV)  : zev cc_X11_tellsOn G 0 krI (zE 124 (.iload_n 3) 1 :: zE 125 (.iload_n 2) 1 :: zE 126 (.iload 4) 2 :: es) σ [vR 11 0, y1, vI x2, vI x3, vI x4, vI x5] [] = zev cc_X11_tellsOn G 0 krI es σ [vR 11 0, y1, vI x2, vI x3, vI x4, vI x5] [vI x4, vI x2, vI x3] := rfl
theorem t_X11_tellsOn_134 {G : Nat → zH → List zAV → List zAV → Option (zH × Int32)} (es : List zEnt) (σ : zH) (x2 : Int32) (x4 : Int32) (x5 : Int32) (xs0 : Int32) (y1 : zAV) (y3 : zAV)  : zev cc_X11_tellsOn G 0 krI (zE 134 (.aload_n 0) 1 :: zEf 135 (.getfield 19) 3 11 4 152 (2, 45, 0) :: zE 138 (.iload 5) 2 :: es) σ [vR 11 0, y1, vI x2, y3, vI x4, vI x5] [vI xs0] = zev cc_X11_tellsOn G 0 krI es σ [vR 11 0, y1, vI x2, y3, vI x4, vI x5] [vI x5, vR 45 0, vI xs0] := rfl
theorem t_X11_tellsOn_141 {G : Nat → zH → List zAV → List zAV → Option (zH × Int32)} (es : List zEnt) (σ : zH) (x2 : Int32) (x4 : Int32) (x5 : Int32) (xs0 : Int32) (xs1 : Int32) (y1 : zAV) (y3 : zAV)  : zev cc_X11_tellsOn G 0 krI (zE 141 (.aload_n 0) 1 :: zEf 142 (.getfield 19) 3 11 4 152 (2, 45, 0) :: zE 145 (.iload 4) 2 :: es) σ [vR 11 0, y1, vI x2, y3, vI x4, vI x5] [vI xs1, vI xs0] = zev cc_X11_tellsOn G 0 krI es σ [vR 11 0, y1, vI x2, y3, vI x4, vI x5] [vI x4, vR 45 0, vI xs1, vI xs0] := rfl
theorem t_X11_tellsOn_151 {G : Nat → zH → List zAV → List zAV → Option (zH × Int32)} (es : List zEnt) (σ : zH) (x2 : Int32) (x4 : Int32) (x5 : Int32) (xs0 : Int32) (y1 : zAV) (y3 : zAV) (w151 : Int32) : zev cc_X11_tellsOn G 0 krI (zEk 151 (.iconst 1) 1 w151 :: zE 152 (.iload 5) 2 :: zE 154 .ishl 1 :: es) σ [vR 11 0, y1, vI x2, y3, vI x4, vI x5] [vI xs0] = zev cc_X11_tellsOn G 0 krI es σ [vR 11 0, y1, vI x2, y3, vI x4, vI x5] [vI (w151 <<< (x5 &&& 31)), vI xs0] := rfl
theorem t_X11_tellsOn_158 {G : Nat → zH → List zAV → List zAV → Option (zH × Int32)} (es : List zEnt) (σ : zH) (x2 : Int32) (x4 : Int32) (x5 : Int32) (xs0 : Int32) (y1 : zAV) (y3 : zAV) (w158 : Int32) : zev cc_X11_tellsOn G 0 krI (zEk 158 (.iconst 0) 1 w158 :: es) σ [vR 11 0, y1, vI x2, y3, vI x4, vI x5] [vI xs0] = zev cc_X11_tellsOn G 0 krI es σ [vR 11 0, y1, vI x2, y3, vI x4, vI x5] [vI w158, vI xs0] := rfl
theorem t_X11_tellsOn_159 {G : Nat → zH → List zAV → List zAV → Option (zH × Int32)} (es : List zEnt) (σ : zH) (x2 : Int32) (x4 : Int32) (x5 : Int32) (xs0 : Int32) (xs1 : Int32) (y1 : zAV) (y3 : zAV) (w161 : Int32) : zev cc_X11_tellsOn G 0 krI (zE 159 .ior 1 :: zE 160 (.istore_n 3) 1 :: zEk 161 (.iinc 5 1) 3 w161 :: es) σ [vR 11 0, y1, vI x2, y3, vI x4, vI x5] [vI xs1, vI xs0] = zev cc_X11_tellsOn G 0 krI es σ [vR 11 0, y1, vI x2, vI (xs0 ||| xs1), vI x4, vI (x5 + w161)] [] := rfl
theorem t_X11_tellsOn_167 {G : Nat → zH → List zAV → List zAV → Option (zH × Int32)} (es : List zEnt) (σ : zH) (x2 : Int32) (x3 : Int32) (x4 : Int32) (y1 : zAV) (y5 : zAV) (w167 : Int32) : zev cc_X11_tellsOn G 0 krI (zEk 167 (.iinc 4 1) 3 w167 :: es) σ [vR 11 0, y1, vI x2, vI x3, vI x4, y5] [] = zev cc_X11_tellsOn G 0 krI es σ [vR 11 0, y1, vI x2, vI x3, vI (x4 + w167), y5] [] := rfl
theorem t_X11_tellsOn_173 {G : Nat → zH → List zAV → List zAV → Option (zH × Int32)} (es : List zEnt) (σ : zH) (x3 : Int32) (y0 : zAV) (y1 : zAV) (y2 : zAV) (y4 : zAV) (y5 : zAV)  : zev cc_X11_tellsOn G 0 krI (zE 173 (.iload_n 3) 1 :: es) σ [y0, y1, y2, vI x3, y4, y5] [] = zev cc_X11_tellsOn G 0 krI es σ [y0, y1, y2, vI x3, y4, y5] [vI x3] := rfl
noncomputable def j_X11_tellsOn_80 (c17 : zH → Int32 → Int32 → Int32 → Int32 → Option (zH × Int32)) (σ : zH) (x1 : Int32) (x3 : Int32) (x4 : Int32) (xs0 : Int32) (xs1 : Int32) : Option (zH × Int32) :=
  c17 σ x1 (xs0 ||| xs1) x3 (x4 + (1 : Int32))
theorem e_X11_tellsOn_80 (c17 : zH → Int32 → Int32 → Int32 → Int32 → Option (zH × Int32)) (σ : zH) (x1 : Int32) (x3 : Int32) (x4 : Int32) (xs0 : Int32) (xs1 : Int32) (y2 : zAV) (y5 : zAV) : j_X11_tellsOn_80 c17 σ x1 x3 x4 xs0 xs1 = zin cc_X11_tellsOn (fun t => if t = 17 then some (gl_X11_tellsOn_17 c17) else none) 0 krI b_X11_tellsOn 80 σ [vR 11 0, vI x1, y2, vI x3, vI x4, y5] [vI xs1, vI xs0] := by
  unfold j_X11_tellsOn_80
  refine Eq.symm ((zin_b (es := q_X11_tellsOn_80) rfl).trans ?_)
  refine (t_X11_tellsOn_80 _ _ _ _ _ _ _ _ _ _).trans ?_
  refine x_goto.trans ?_
  exact (zrun_c rfl).trans (glr_X11_tellsOn_17 _ _ _ _ _ _ _)
theorem s_X11_tellsOn_80 {X : zX} (hX : zHX X) {c17 : zH → Int32 → Int32 → Int32 → Int32 → Option (zH × Int32)} (h17 : ∀ σ L st r, gl_X11_tellsOn_17 c17 σ L st = some r → zGW X 198 krI 17 σ L st r) : ∀ σ L st r, gl_X11_tellsOn_80 (j_X11_tellsOn_80 c17) σ L st = some r → zGW X 198 krI 80 σ L st r := by
  intro σ L st r h
  unfold gl_X11_tellsOn_80 at h
  split at h
  · exact zin_ok (hy_X11_tellsOn hX) bk_X11_tellsOn (fun t f hf => by
    by_cases e17 : t = 17
    · rw [if_pos e17] at hf; subst e17; cases hf; exact h17
    rw [if_neg e17] at hf
    cases hf) ((e_X11_tellsOn_80 _ _ _ _ _ _ _ _ _).symm.trans h)
  · cases h
noncomputable def j_X11_tellsOn_79 (c17 : zH → Int32 → Int32 → Int32 → Int32 → Option (zH × Int32)) (σ : zH) (x1 : Int32) (x3 : Int32) (x4 : Int32) (xs0 : Int32) : Option (zH × Int32) :=
  (j_X11_tellsOn_80 c17) σ x1 x3 x4 xs0 (0 : Int32)
theorem e_X11_tellsOn_79 (c17 : zH → Int32 → Int32 → Int32 → Int32 → Option (zH × Int32)) (σ : zH) (x1 : Int32) (x3 : Int32) (x4 : Int32) (xs0 : Int32) (y2 : zAV) (y5 : zAV) : j_X11_tellsOn_79 c17 σ x1 x3 x4 xs0 = zin cc_X11_tellsOn (fun t => if t = 80 then some (gl_X11_tellsOn_80 (j_X11_tellsOn_80 c17)) else none) 0 krI b_X11_tellsOn 79 σ [vR 11 0, vI x1, y2, vI x3, vI x4, y5] [vI xs0] := by
  unfold j_X11_tellsOn_79
  refine Eq.symm ((zin_b (es := q_X11_tellsOn_79) rfl).trans ?_)
  refine (t_X11_tellsOn_79 _ _ _ _ _ _ _ _ _).trans ?_
  refine x_cut.trans ?_
  exact (zrun_c rfl).trans (glr_X11_tellsOn_80 _ _ _ _ _ _ _ _ _)
theorem s_X11_tellsOn_79 {X : zX} (hX : zHX X) {c17 : zH → Int32 → Int32 → Int32 → Int32 → Option (zH × Int32)} (h17 : ∀ σ L st r, gl_X11_tellsOn_17 c17 σ L st = some r → zGW X 198 krI 17 σ L st r) : ∀ σ L st r, gl_X11_tellsOn_79 (j_X11_tellsOn_79 c17) σ L st = some r → zGW X 198 krI 79 σ L st r := by
  intro σ L st r h
  unfold gl_X11_tellsOn_79 at h
  split at h
  · exact zin_ok (hy_X11_tellsOn hX) bk_X11_tellsOn (fun t f hf => by
    by_cases e80 : t = 80
    · rw [if_pos e80] at hf; subst e80; cases hf; exact (s_X11_tellsOn_80 hX h17)
    rw [if_neg e80] at hf
    cases hf) ((e_X11_tellsOn_79 _ _ _ _ _ _ _ _).symm.trans h)
  · cases h
noncomputable def k_X11_tellsOn_17 (c88 : zH → Int32 → Int32 → Int32 → Option (zH × Int32)) : Nat → zH → Int32 → Int32 → Int32 → Int32 → Option (zH × Int32)
  | 0, _, _, _, _, _ => none
  | n + 1, σ, x1, x2, x3, x4 =>
    if x4 < (σ.1 42 0 0) then
      (d_X11_has σ x1 x3).bind fun p1 =>
      if p1.2 = 0 then
        (j_X11_tellsOn_79 (k_X11_tellsOn_17 c88 n)) p1.1 x1 x3 x4 x2
      else
        ix x3 12 fun j2 =>
        if (p1.1.1 62 0 j2) = 0 then
          ix x4 12 fun j3 =>
          if (p1.1.1 62 0 j3) = 0 then
            ix x4 12 fun j4 =>
            ix x3 12 fun j5 =>
            if (p1.1.1 44 0 j4) = (p1.1.1 44 0 j5) then
              (j_X11_tellsOn_80 (k_X11_tellsOn_17 c88 n)) p1.1 x1 x3 x4 x2 ((1 : Int32) <<< (x4 &&& 31))
            else
              (j_X11_tellsOn_79 (k_X11_tellsOn_17 c88 n)) p1.1 x1 x3 x4 x2
          else
            (j_X11_tellsOn_79 (k_X11_tellsOn_17 c88 n)) p1.1 x1 x3 x4 x2
        else
          (j_X11_tellsOn_79 (k_X11_tellsOn_17 c88 n)) p1.1 x1 x3 x4 x2
    else
      c88 σ x1 x2 x3
theorem e_X11_tellsOn_17 (c88 : zH → Int32 → Int32 → Int32 → Option (zH × Int32)) (n : Nat) (σ : zH) (x1 : Int32) (x2 : Int32) (x3 : Int32) (x4 : Int32) (y5 : zAV) : k_X11_tellsOn_17 c88 (n + 1) σ x1 x2 x3 x4 = zin cc_X11_tellsOn (fun t => if t = 79 then some (gl_X11_tellsOn_79 (j_X11_tellsOn_79 (k_X11_tellsOn_17 c88 n))) else if t = 80 then some (gl_X11_tellsOn_80 (j_X11_tellsOn_80 (k_X11_tellsOn_17 c88 n))) else if t = 88 then some (gl_X11_tellsOn_88 c88) else none) 0 krI b_X11_tellsOn 17 σ [vR 11 0, vI x1, vI x2, vI x3, vI x4, y5] [] := by
  rw [k_X11_tellsOn_17]
  refine Eq.symm ((zin_b (es := q_X11_tellsOn_17) rfl).trans ?_)
  refine (t_X11_tellsOn_17 _ _ _ _ _ _ _ _).trans ?_
  refine ((x_iald (N := 11) rfl rfl).trans (ix_l 0 (by decide +kernel))).trans ?_
  refine x_icmp.trans (pif_ge ?_ ?_)
  · exact (zrun_c rfl).trans (glr_X11_tellsOn_88 _ _ _ _ _ _ _)
  · refine (t_X11_tellsOn_28 _ _ _ _ _ _ _).trans ?_
    refine (x_callS rfl rfl rfl rfl).trans ((cl_X11_tellsOn_X11_has _ _ _).trans ((gr_X11_has _ _ _ _).trans (pbd fun _ => ?_)))
    refine x_if.trans (pif_eq ?_ ?_)
    · exact (zrun_c rfl).trans (glr_X11_tellsOn_79 _ _ _ _ _ _ _ _)
    · refine (t_X11_tellsOn_37 _ _ _ _ _ _ _ _).trans ?_
      refine (x_iald (N := 12) rfl rfl).trans (pix fun _ => ?_)
      refine x_if.trans (pif_ne ?_ ?_)
      · exact (zrun_c rfl).trans (glr_X11_tellsOn_79 _ _ _ _ _ _ _ _)
      · refine (t_X11_tellsOn_46 _ _ _ _ _ _ _ _).trans ?_
        refine (x_iald (N := 12) rfl rfl).trans (pix fun _ => ?_)
        refine x_if.trans (pif_ne ?_ ?_)
        · exact (zrun_c rfl).trans (glr_X11_tellsOn_79 _ _ _ _ _ _ _ _)
        · refine (t_X11_tellsOn_56 _ _ _ _ _ _ _ _).trans ?_
          refine (x_iald (N := 12) rfl rfl).trans (pix fun _ => ?_)
          refine (t_X11_tellsOn_63 _ _ _ _ _ _ _ _ _).trans ?_
          refine (x_iald (N := 12) rfl rfl).trans (pix fun _ => ?_)
          refine x_icmp.trans (pif_ne ?_ ?_)
          · exact (zrun_c rfl).trans (glr_X11_tellsOn_79 _ _ _ _ _ _ _ _)
          · refine (t_X11_tellsOn_72 _ _ _ _ _ _ _ _ _).trans ?_
            refine x_goto.trans ?_
            exact (zrun_c rfl).trans (glr_X11_tellsOn_80 _ _ _ _ _ _ _ _ _)
theorem s_X11_tellsOn_17 {X : zX} (hX : zHX X) {c88 : zH → Int32 → Int32 → Int32 → Option (zH × Int32)} (h88 : ∀ σ L st r, gl_X11_tellsOn_88 c88 σ L st = some r → zGW X 198 krI 88 σ L st r) : ∀ n σ L st r, gl_X11_tellsOn_17 (k_X11_tellsOn_17 c88 n) σ L st = some r → zGW X 198 krI 17 σ L st r := by
  intro n
  induction n with
  | zero =>
    intro σ L st r h
    unfold gl_X11_tellsOn_17 at h
    split at h <;> cases h
  | succ n ih =>
    intro σ L st r h
    unfold gl_X11_tellsOn_17 at h
    split at h
    · exact zin_ok (hy_X11_tellsOn hX) bk_X11_tellsOn (fun t f hf => by
      by_cases e79 : t = 79
      · rw [if_pos e79] at hf; subst e79; cases hf; exact (s_X11_tellsOn_79 hX ih)
      rw [if_neg e79] at hf
      by_cases e80 : t = 80
      · rw [if_pos e80] at hf; subst e80; cases hf; exact (s_X11_tellsOn_80 hX ih)
      rw [if_neg e80] at hf
      by_cases e88 : t = 88
      · rw [if_pos e88] at hf; subst e88; cases hf; exact h88
      rw [if_neg e88] at hf
      cases hf) ((e_X11_tellsOn_17 _ _ _ _ _ _ _ _).symm.trans h)
    · cases h
noncomputable def j_X11_tellsOn_88 (c4 : zH → Int32 → Int32 → Int32 → Option (zH × Int32)) (σ : zH) (x1 : Int32) (x2 : Int32) (x3 : Int32) : Option (zH × Int32) :=
  c4 σ x1 x2 (x3 + (1 : Int32))
theorem e_X11_tellsOn_88 (c4 : zH → Int32 → Int32 → Int32 → Option (zH × Int32)) (σ : zH) (x1 : Int32) (x2 : Int32) (x3 : Int32) (y4 : zAV) (y5 : zAV) : j_X11_tellsOn_88 c4 σ x1 x2 x3 = zin cc_X11_tellsOn (fun t => if t = 4 then some (gl_X11_tellsOn_4 c4) else none) 0 krI b_X11_tellsOn 88 σ [vR 11 0, vI x1, vI x2, vI x3, y4, y5] [] := by
  unfold j_X11_tellsOn_88
  refine Eq.symm ((zin_b (es := q_X11_tellsOn_88) rfl).trans ?_)
  refine (t_X11_tellsOn_88 _ _ _ _ _ _ _ _).trans ?_
  refine x_goto.trans ?_
  exact (zrun_c rfl).trans (glr_X11_tellsOn_4 _ _ _ _ _ _ _)
theorem s_X11_tellsOn_88 {X : zX} (hX : zHX X) {c4 : zH → Int32 → Int32 → Int32 → Option (zH × Int32)} (h4 : ∀ σ L st r, gl_X11_tellsOn_4 c4 σ L st = some r → zGW X 198 krI 4 σ L st r) : ∀ σ L st r, gl_X11_tellsOn_88 (j_X11_tellsOn_88 c4) σ L st = some r → zGW X 198 krI 88 σ L st r := by
  intro σ L st r h
  unfold gl_X11_tellsOn_88 at h
  split at h
  · exact zin_ok (hy_X11_tellsOn hX) bk_X11_tellsOn (fun t f hf => by
    by_cases e4 : t = 4
    · rw [if_pos e4] at hf; subst e4; cases hf; exact h4
    rw [if_neg e4] at hf
    cases hf) ((e_X11_tellsOn_88 _ _ _ _ _ _ _).symm.trans h)
  · cases h
noncomputable def k_X11_tellsOn_4 (c94 : zH → Int32 → Option (zH × Int32)) : Nat → zH → Int32 → Int32 → Int32 → Option (zH × Int32)
  | 0, _, _, _, _ => none
  | n + 1, σ, x1, x2, x3 =>
    if x3 < (σ.1 42 0 0) then
      (k_X11_tellsOn_17 (j_X11_tellsOn_88 (k_X11_tellsOn_4 c94 n)) zN) σ x1 x2 x3 (0 : Int32)
    else
      c94 σ x2
theorem e_X11_tellsOn_4 (c94 : zH → Int32 → Option (zH × Int32)) (n : Nat) (σ : zH) (x1 : Int32) (x2 : Int32) (x3 : Int32) (y4 : zAV) (y5 : zAV) : k_X11_tellsOn_4 c94 (n + 1) σ x1 x2 x3 = zin cc_X11_tellsOn (fun t => if t = 17 then some (gl_X11_tellsOn_17 (k_X11_tellsOn_17 (j_X11_tellsOn_88 (k_X11_tellsOn_4 c94 n)) zN)) else if t = 94 then some (gl_X11_tellsOn_94 c94) else none) 0 krI b_X11_tellsOn 4 σ [vR 11 0, vI x1, vI x2, vI x3, y4, y5] [] := by
  rw [k_X11_tellsOn_4]
  refine Eq.symm ((zin_b (es := q_X11_tellsOn_4) rfl).trans ?_)
  refine (t_X11_tellsOn_4 _ _ _ _ _ _ _ _).trans ?_
  refine ((x_iald (N := 11) rfl rfl).trans (ix_l 0 (by decide +kernel))).trans ?_
  refine x_icmp.trans (pif_ge ?_ ?_)
  · exact (zrun_c rfl).trans (glr_X11_tellsOn_94 _ _ _ _ _ _ _)
  · refine (t_X11_tellsOn_14 _ _ _ _ _ _ _ _).trans ?_
    refine x_cut.trans ?_
    exact (zrun_c rfl).trans (glr_X11_tellsOn_17 _ _ _ _ _ _ _)
theorem s_X11_tellsOn_4 {X : zX} (hX : zHX X) {c94 : zH → Int32 → Option (zH × Int32)} (h94 : ∀ σ L st r, gl_X11_tellsOn_94 c94 σ L st = some r → zGW X 198 krI 94 σ L st r) : ∀ n σ L st r, gl_X11_tellsOn_4 (k_X11_tellsOn_4 c94 n) σ L st = some r → zGW X 198 krI 4 σ L st r := by
  intro n
  induction n with
  | zero =>
    intro σ L st r h
    unfold gl_X11_tellsOn_4 at h
    split at h <;> cases h
  | succ n ih =>
    intro σ L st r h
    unfold gl_X11_tellsOn_4 at h
    split at h
    · exact zin_ok (hy_X11_tellsOn hX) bk_X11_tellsOn (fun t f hf => by
      by_cases e17 : t = 17
      · rw [if_pos e17] at hf; subst e17; cases hf; exact ((fun σ L st r h => s_X11_tellsOn_17 hX (s_X11_tellsOn_88 hX ih) zN σ L st r h))
      rw [if_neg e17] at hf
      by_cases e94 : t = 94
      · rw [if_pos e94] at hf; subst e94; cases hf; exact h94
      rw [if_neg e94] at hf
      cases hf) ((e_X11_tellsOn_4 _ _ _ _ _ _ _ _).symm.trans h)
    · cases h
noncomputable def j_X11_tellsOn_159 (c113 : zH → Int32 → Int32 → Int32 → Int32 → Option (zH × Int32)) (σ : zH) (x2 : Int32) (x4 : Int32) (x5 : Int32) (xs0 : Int32) (xs1 : Int32) : Option (zH × Int32) :=
  c113 σ x2 (xs0 ||| xs1) x4 (x5 + (1 : Int32))
theorem e_X11_tellsOn_159 (c113 : zH → Int32 → Int32 → Int32 → Int32 → Option (zH × Int32)) (σ : zH) (x2 : Int32) (x4 : Int32) (x5 : Int32) (xs0 : Int32) (xs1 : Int32) (y1 : zAV) (y3 : zAV) : j_X11_tellsOn_159 c113 σ x2 x4 x5 xs0 xs1 = zin cc_X11_tellsOn (fun t => if t = 113 then some (gl_X11_tellsOn_113 c113) else none) 0 krI b_X11_tellsOn 159 σ [vR 11 0, y1, vI x2, y3, vI x4, vI x5] [vI xs1, vI xs0] := by
  unfold j_X11_tellsOn_159
  refine Eq.symm ((zin_b (es := q_X11_tellsOn_159) rfl).trans ?_)
  refine (t_X11_tellsOn_159 _ _ _ _ _ _ _ _ _ _).trans ?_
  refine x_goto.trans ?_
  exact (zrun_c rfl).trans (glr_X11_tellsOn_113 _ _ _ _ _ _ _)
theorem s_X11_tellsOn_159 {X : zX} (hX : zHX X) {c113 : zH → Int32 → Int32 → Int32 → Int32 → Option (zH × Int32)} (h113 : ∀ σ L st r, gl_X11_tellsOn_113 c113 σ L st = some r → zGW X 198 krI 113 σ L st r) : ∀ σ L st r, gl_X11_tellsOn_159 (j_X11_tellsOn_159 c113) σ L st = some r → zGW X 198 krI 159 σ L st r := by
  intro σ L st r h
  unfold gl_X11_tellsOn_159 at h
  split at h
  · exact zin_ok (hy_X11_tellsOn hX) bk_X11_tellsOn (fun t f hf => by
    by_cases e113 : t = 113
    · rw [if_pos e113] at hf; subst e113; cases hf; exact h113
    rw [if_neg e113] at hf
    cases hf) ((e_X11_tellsOn_159 _ _ _ _ _ _ _ _ _).symm.trans h)
  · cases h
noncomputable def j_X11_tellsOn_158 (c113 : zH → Int32 → Int32 → Int32 → Int32 → Option (zH × Int32)) (σ : zH) (x2 : Int32) (x4 : Int32) (x5 : Int32) (xs0 : Int32) : Option (zH × Int32) :=
  (j_X11_tellsOn_159 c113) σ x2 x4 x5 xs0 (0 : Int32)
theorem e_X11_tellsOn_158 (c113 : zH → Int32 → Int32 → Int32 → Int32 → Option (zH × Int32)) (σ : zH) (x2 : Int32) (x4 : Int32) (x5 : Int32) (xs0 : Int32) (y1 : zAV) (y3 : zAV) : j_X11_tellsOn_158 c113 σ x2 x4 x5 xs0 = zin cc_X11_tellsOn (fun t => if t = 159 then some (gl_X11_tellsOn_159 (j_X11_tellsOn_159 c113)) else none) 0 krI b_X11_tellsOn 158 σ [vR 11 0, y1, vI x2, y3, vI x4, vI x5] [vI xs0] := by
  unfold j_X11_tellsOn_158
  refine Eq.symm ((zin_b (es := q_X11_tellsOn_158) rfl).trans ?_)
  refine (t_X11_tellsOn_158 _ _ _ _ _ _ _ _ _).trans ?_
  refine x_cut.trans ?_
  exact (zrun_c rfl).trans (glr_X11_tellsOn_159 _ _ _ _ _ _ _ _ _)
theorem s_X11_tellsOn_158 {X : zX} (hX : zHX X) {c113 : zH → Int32 → Int32 → Int32 → Int32 → Option (zH × Int32)} (h113 : ∀ σ L st r, gl_X11_tellsOn_113 c113 σ L st = some r → zGW X 198 krI 113 σ L st r) : ∀ σ L st r, gl_X11_tellsOn_158 (j_X11_tellsOn_158 c113) σ L st = some r → zGW X 198 krI 158 σ L st r := by
  intro σ L st r h
  unfold gl_X11_tellsOn_158 at h
  split at h
  · exact zin_ok (hy_X11_tellsOn hX) bk_X11_tellsOn (fun t f hf => by
    by_cases e159 : t = 159
    · rw [if_pos e159] at hf; subst e159; cases hf; exact (s_X11_tellsOn_159 hX h113)
    rw [if_neg e159] at hf
    cases hf) ((e_X11_tellsOn_158 _ _ _ _ _ _ _ _).symm.trans h)
  · cases h
noncomputable def k_X11_tellsOn_113 (c167 : zH → Int32 → Int32 → Int32 → Option (zH × Int32)) : Nat → zH → Int32 → Int32 → Int32 → Int32 → Option (zH × Int32)
  | 0, _, _, _, _, _ => none
  | n + 1, σ, x2, x3, x4, x5 =>
    if x5 < (σ.1 42 0 0) then
      (d_X11_has σ x2 x4).bind fun p1 =>
      if p1.2 = 0 then
        (j_X11_tellsOn_158 (k_X11_tellsOn_113 c167 n)) p1.1 x2 x4 x5 x3
      else
        ix x5 12 fun j2 =>
        ix x4 12 fun j3 =>
        if (p1.1.1 45 0 j2) = (p1.1.1 45 0 j3) then
          (j_X11_tellsOn_159 (k_X11_tellsOn_113 c167 n)) p1.1 x2 x4 x5 x3 ((1 : Int32) <<< (x5 &&& 31))
        else
          (j_X11_tellsOn_158 (k_X11_tellsOn_113 c167 n)) p1.1 x2 x4 x5 x3
    else
      c167 σ x2 x3 x4
theorem e_X11_tellsOn_113 (c167 : zH → Int32 → Int32 → Int32 → Option (zH × Int32)) (n : Nat) (σ : zH) (x2 : Int32) (x3 : Int32) (x4 : Int32) (x5 : Int32) (y1 : zAV) : k_X11_tellsOn_113 c167 (n + 1) σ x2 x3 x4 x5 = zin cc_X11_tellsOn (fun t => if t = 158 then some (gl_X11_tellsOn_158 (j_X11_tellsOn_158 (k_X11_tellsOn_113 c167 n))) else if t = 159 then some (gl_X11_tellsOn_159 (j_X11_tellsOn_159 (k_X11_tellsOn_113 c167 n))) else if t = 167 then some (gl_X11_tellsOn_167 c167) else none) 0 krI b_X11_tellsOn 113 σ [vR 11 0, y1, vI x2, vI x3, vI x4, vI x5] [] := by
  rw [k_X11_tellsOn_113]
  refine Eq.symm ((zin_b (es := q_X11_tellsOn_113) rfl).trans ?_)
  refine (t_X11_tellsOn_113 _ _ _ _ _ _ _ _).trans ?_
  refine ((x_iald (N := 11) rfl rfl).trans (ix_l 0 (by decide +kernel))).trans ?_
  refine x_icmp.trans (pif_ge ?_ ?_)
  · exact (zrun_c rfl).trans (glr_X11_tellsOn_167 _ _ _ _ _ _ _)
  · refine (t_X11_tellsOn_124 _ _ _ _ _ _ _).trans ?_
    refine (x_callS rfl rfl rfl rfl).trans ((cl_X11_tellsOn_X11_has _ _ _).trans ((gr_X11_has _ _ _ _).trans (pbd fun _ => ?_)))
    refine x_if.trans (pif_eq ?_ ?_)
    · exact (zrun_c rfl).trans (glr_X11_tellsOn_158 _ _ _ _ _ _ _ _)
    · refine (t_X11_tellsOn_134 _ _ _ _ _ _ _ _).trans ?_
      refine (x_iald (N := 12) rfl rfl).trans (pix fun _ => ?_)
      refine (t_X11_tellsOn_141 _ _ _ _ _ _ _ _ _).trans ?_
      refine (x_iald (N := 12) rfl rfl).trans (pix fun _ => ?_)
      refine x_icmp.trans (pif_ne ?_ ?_)
      · exact (zrun_c rfl).trans (glr_X11_tellsOn_158 _ _ _ _ _ _ _ _)
      · refine (t_X11_tellsOn_151 _ _ _ _ _ _ _ _ _).trans ?_
        refine x_goto.trans ?_
        exact (zrun_c rfl).trans (glr_X11_tellsOn_159 _ _ _ _ _ _ _ _ _)
theorem s_X11_tellsOn_113 {X : zX} (hX : zHX X) {c167 : zH → Int32 → Int32 → Int32 → Option (zH × Int32)} (h167 : ∀ σ L st r, gl_X11_tellsOn_167 c167 σ L st = some r → zGW X 198 krI 167 σ L st r) : ∀ n σ L st r, gl_X11_tellsOn_113 (k_X11_tellsOn_113 c167 n) σ L st = some r → zGW X 198 krI 113 σ L st r := by
  intro n
  induction n with
  | zero =>
    intro σ L st r h
    unfold gl_X11_tellsOn_113 at h
    split at h <;> cases h
  | succ n ih =>
    intro σ L st r h
    unfold gl_X11_tellsOn_113 at h
    split at h
    · exact zin_ok (hy_X11_tellsOn hX) bk_X11_tellsOn (fun t f hf => by
      by_cases e158 : t = 158
      · rw [if_pos e158] at hf; subst e158; cases hf; exact (s_X11_tellsOn_158 hX ih)
      rw [if_neg e158] at hf
      by_cases e159 : t = 159
      · rw [if_pos e159] at hf; subst e159; cases hf; exact (s_X11_tellsOn_159 hX ih)
      rw [if_neg e159] at hf
      by_cases e167 : t = 167
      · rw [if_pos e167] at hf; subst e167; cases hf; exact h167
      rw [if_neg e167] at hf
      cases hf) ((e_X11_tellsOn_113 _ _ _ _ _ _ _ _).symm.trans h)
    · cases h
noncomputable def j_X11_tellsOn_167 (c99 : zH → Int32 → Int32 → Int32 → Option (zH × Int32)) (σ : zH) (x2 : Int32) (x3 : Int32) (x4 : Int32) : Option (zH × Int32) :=
  c99 σ x2 x3 (x4 + (1 : Int32))
theorem e_X11_tellsOn_167 (c99 : zH → Int32 → Int32 → Int32 → Option (zH × Int32)) (σ : zH) (x2 : Int32) (x3 : Int32) (x4 : Int32) (y1 : zAV) (y5 : zAV) : j_X11_tellsOn_167 c99 σ x2 x3 x4 = zin cc_X11_tellsOn (fun t => if t = 99 then some (gl_X11_tellsOn_99 c99) else none) 0 krI b_X11_tellsOn 167 σ [vR 11 0, y1, vI x2, vI x3, vI x4, y5] [] := by
  unfold j_X11_tellsOn_167
  refine Eq.symm ((zin_b (es := q_X11_tellsOn_167) rfl).trans ?_)
  refine (t_X11_tellsOn_167 _ _ _ _ _ _ _ _).trans ?_
  refine x_goto.trans ?_
  exact (zrun_c rfl).trans (glr_X11_tellsOn_99 _ _ _ _ _ _ _)
theorem s_X11_tellsOn_167 {X : zX} (hX : zHX X) {c99 : zH → Int32 → Int32 → Int32 → Option (zH × Int32)} (h99 : ∀ σ L st r, gl_X11_tellsOn_99 c99 σ L st = some r → zGW X 198 krI 99 σ L st r) : ∀ σ L st r, gl_X11_tellsOn_167 (j_X11_tellsOn_167 c99) σ L st = some r → zGW X 198 krI 167 σ L st r := by
  intro σ L st r h
  unfold gl_X11_tellsOn_167 at h
  split at h
  · exact zin_ok (hy_X11_tellsOn hX) bk_X11_tellsOn (fun t f hf => by
    by_cases e99 : t = 99
    · rw [if_pos e99] at hf; subst e99; cases hf; exact h99
    rw [if_neg e99] at hf
    cases hf) ((e_X11_tellsOn_167 _ _ _ _ _ _ _).symm.trans h)
  · cases h
noncomputable def k_X11_tellsOn_99  : Nat → zH → Int32 → Int32 → Int32 → Option (zH × Int32)
  | 0, _, _, _, _ => none
  | n + 1, σ, x2, x3, x4 =>
    if x4 < (σ.1 42 0 0) then
      (k_X11_tellsOn_113 (j_X11_tellsOn_167 (k_X11_tellsOn_99 n)) zN) σ x2 x3 x4 (0 : Int32)
    else
      some (σ, x3)
theorem e_X11_tellsOn_99  (n : Nat) (σ : zH) (x2 : Int32) (x3 : Int32) (x4 : Int32) (y1 : zAV) (y5 : zAV) : k_X11_tellsOn_99 (n + 1) σ x2 x3 x4 = zin cc_X11_tellsOn (fun t => if t = 113 then some (gl_X11_tellsOn_113 (k_X11_tellsOn_113 (j_X11_tellsOn_167 (k_X11_tellsOn_99 n)) zN)) else none) 0 krI b_X11_tellsOn 99 σ [vR 11 0, y1, vI x2, vI x3, vI x4, y5] [] := by
  rw [k_X11_tellsOn_99]
  refine Eq.symm ((zin_b (es := q_X11_tellsOn_99) rfl).trans ?_)
  refine (t_X11_tellsOn_99 _ _ _ _ _ _ _ _).trans ?_
  refine ((x_iald (N := 11) rfl rfl).trans (ix_l 0 (by decide +kernel))).trans ?_
  refine x_icmp.trans (pif_ge ?_ ?_)
  · refine (zrun_b (es := q_X11_tellsOn_173) rfl rfl).trans ?_
    refine (t_X11_tellsOn_173 _ _ _ _ _ _ _ _).trans ?_
    exact x_iret
  · refine (t_X11_tellsOn_110 _ _ _ _ _ _ _ _).trans ?_
    refine x_cut.trans ?_
    exact (zrun_c rfl).trans (glr_X11_tellsOn_113 _ _ _ _ _ _ _)
theorem s_X11_tellsOn_99 {X : zX} (hX : zHX X)   : ∀ n σ L st r, gl_X11_tellsOn_99 (k_X11_tellsOn_99 n) σ L st = some r → zGW X 198 krI 99 σ L st r := by
  intro n
  induction n with
  | zero =>
    intro σ L st r h
    unfold gl_X11_tellsOn_99 at h
    split at h <;> cases h
  | succ n ih =>
    intro σ L st r h
    unfold gl_X11_tellsOn_99 at h
    split at h
    · exact zin_ok (hy_X11_tellsOn hX) bk_X11_tellsOn (fun t f hf => by
      by_cases e113 : t = 113
      · rw [if_pos e113] at hf; subst e113; cases hf; exact ((fun σ L st r h => s_X11_tellsOn_113 hX (s_X11_tellsOn_167 hX ih) zN σ L st r h))
      rw [if_neg e113] at hf
      cases hf) ((e_X11_tellsOn_99 _ _ _ _ _ _ _).symm.trans h)
    · cases h
noncomputable def j_X11_tellsOn_94  (σ : zH) (x2 : Int32) : Option (zH × Int32) :=
  (k_X11_tellsOn_99 zN) σ x2 x2 (0 : Int32)
theorem e_X11_tellsOn_94  (σ : zH) (x2 : Int32) (y1 : zAV) (y3 : zAV) (y4 : zAV) (y5 : zAV) : j_X11_tellsOn_94 σ x2 = zin cc_X11_tellsOn (fun t => if t = 99 then some (gl_X11_tellsOn_99 (k_X11_tellsOn_99 zN)) else none) 0 krI b_X11_tellsOn 94 σ [vR 11 0, y1, vI x2, y3, y4, y5] [] := by
  unfold j_X11_tellsOn_94
  refine Eq.symm ((zin_b (es := q_X11_tellsOn_94) rfl).trans ?_)
  refine (t_X11_tellsOn_94 _ _ _ _ _ _ _ _).trans ?_
  refine x_cut.trans ?_
  exact (zrun_c rfl).trans (glr_X11_tellsOn_99 _ _ _ _ _ _ _)
theorem s_X11_tellsOn_94 {X : zX} (hX : zHX X)   : ∀ σ L st r, gl_X11_tellsOn_94 j_X11_tellsOn_94 σ L st = some r → zGW X 198 krI 94 σ L st r := by
  intro σ L st r h
  unfold gl_X11_tellsOn_94 at h
  split at h
  · exact zin_ok (hy_X11_tellsOn hX) bk_X11_tellsOn (fun t f hf => by
    by_cases e99 : t = 99
    · rw [if_pos e99] at hf; subst e99; cases hf; exact ((fun σ L st r h => s_X11_tellsOn_99 hX  zN σ L st r h))
    rw [if_neg e99] at hf
    cases hf) ((e_X11_tellsOn_94 _ _ _ _ _ _).symm.trans h)
  · cases h
noncomputable def d_X11_tellsOn (σ : zH) (xa1 : Int32) : Option (zH × Int32) :=
  (k_X11_tellsOn_4 j_X11_tellsOn_94 zN) σ xa1 xa1 (0 : Int32)
theorem e_X11_tellsOn (σ : zH) (xa1 : Int32) : d_X11_tellsOn σ xa1 = zin cc_X11_tellsOn (fun t => if t = 4 then some (gl_X11_tellsOn_4 (k_X11_tellsOn_4 j_X11_tellsOn_94 zN)) else none) 0 krI b_X11_tellsOn 0 σ [vR 11 0, vI xa1, vU, vU, vU, vU] [] := by
  unfold d_X11_tellsOn
  refine Eq.symm ((zin_b (es := q_X11_tellsOn_0) rfl).trans ?_)
  refine (t_X11_tellsOn_0 _ _ _ _ _ _ _ _).trans ?_
  refine x_cut.trans ?_
  exact (zrun_c rfl).trans (glr_X11_tellsOn_4 _ _ _ _ _ _ _)
noncomputable def g_X11_tellsOn {ρ : Type} (σ : zH) (av : List zAV) (q : zH → zAV → Option ρ) : Option ρ := match av with
  | [.inr (.inr (.inl (11, 0))), .inl xa1] => (d_X11_tellsOn σ xa1).bind fun p => q p.1 (vI p.2)
  | _ => none
theorem gr_X11_tellsOn {ρ : Type} (σ : zH) (xa1 : Int32) (q : zH → zAV → Option ρ) : g_X11_tellsOn σ [vR 11 0, vI xa1] q = (d_X11_tellsOn σ xa1).bind fun p => q p.1 (vI p.2) := rfl
theorem c_X11_tellsOn {ρ : Type} {X : zX} (hX : zHX X) {σ : zH} {av : List zAV} {q : zH → zAV → Option ρ} {r : ρ} (h : g_X11_tellsOn σ av q = some r) (hv : ∀ a ∈ av, zval X a) : zcon X 198 σ av q r := by
  unfold g_X11_tellsOn at h
  split at h
  · exact zcon_I (n := 198) (ml := 6) (rc := 0) (st := 0) (kd := 11) (np := 1) (by decide +kernel) (by decide) ⟨_, _, rfl, rfl⟩ (Nat.le_of_ble_eq_true rfl) hv h (fun y h1 => (zin_ok (hy_X11_tellsOn hX) bk_X11_tellsOn (fun t f hf => by
      by_cases e4 : t = 4
      · rw [if_pos e4] at hf; subst e4; cases hf; exact ((fun σ L st r h => s_X11_tellsOn_4 hX (s_X11_tellsOn_94 hX) zN σ L st r h))
      rw [if_neg e4] at hf
      cases hf) ((e_X11_tellsOn _ _).symm.trans h1)))
  · cases h
/-! SleepWavesModel.dreams(IIII)I -/
def q_X11_dreams_17 : List zEnt := zEa 17 (.goto 5) 3 22 :: []
def q_X11_dreams_16 : List zEnt := zEk 16 (.iconst 0) 1 0 :: q_X11_dreams_17
def q_X11_dreams_13 : List zEnt := zEa 13 (.if_icmp .ne 7) 3 20 :: q_X11_dreams_16
def q_X11_dreams_4 : List zEnt := zEk 4 (.iconst 1) 1 1 :: zE 5 (.iload_n 2) 1 :: zE 6 .ishl 1 :: zE 7 (.istore 5) 2 :: zE 9 (.aload_n 0) 1 :: zE 10 (.iload_n 2) 1 :: zE 11 (.iload 4) 2 :: q_X11_dreams_13
def q_X11_dreams_1 : List zEnt := zEc 1 (.invokevirtual 431) 3 187 1 169 1 :: q_X11_dreams_4
def q_X11_dreams_0 : List zEnt := zE 0 (.aload_n 0) 1 :: q_X11_dreams_1
def q_X11_dreams_20 : List zEnt := zEk 20 (.bipush (-2)) 2 (-2) :: [zE 22 .nop 0]
def q_X11_dreams_25 : List zEnt := zEk 25 (.iconst 1) 1 1 :: zE 26 (.istore 6) 2 :: [zE 28 .nop 0]
def q_X11_dreams_22 : List zEnt := zEf 22 (.putfield 463) 3 11 61 209 (0, 0, 0) :: q_X11_dreams_25
def q_X11_dreams_69 : List zEnt := zEa 69 (.goto 7) 3 76 :: []
def q_X11_dreams_67 : List zEnt := zE 67 (.iload 6) 2 :: q_X11_dreams_69
def q_X11_dreams_64 : List zEnt := zEa 64 (.ifCond .eq 8) 3 72 :: q_X11_dreams_67
def q_X11_dreams_61 : List zEnt := zEc 61 (.invokestatic 177) 3 126 2 154 0 :: q_X11_dreams_64
def q_X11_dreams_57 : List zEnt := zE 57 (.iload 5) 2 :: zE 59 (.iload 4) 2 :: q_X11_dreams_61
def q_X11_dreams_54 : List zEnt := zEa 54 (.if_icmp .ne 18) 3 72 :: q_X11_dreams_57
def q_X11_dreams_45 : List zEnt := zE 45 (.istore 5) 2 :: zE 47 (.aload_n 0) 1 :: zE 48 (.aload_n 0) 1 :: zEf 49 (.getfield 463) 3 11 61 209 (0, 0, 0) :: zEk 52 (.bipush (-2)) 2 (-2) :: q_X11_dreams_54
def q_X11_dreams_42 : List zEnt := zEc 42 (.invokevirtual 466) 3 198 2 176 0 :: q_X11_dreams_45
def q_X11_dreams_39 : List zEnt := zE 39 (.aload_n 0) 1 :: zE 40 (.iload 5) 2 :: q_X11_dreams_42
def q_X11_dreams_36 : List zEnt := zEc 36 (.invokevirtual 423) 3 180 2 146 1 :: q_X11_dreams_39
def q_X11_dreams_34 : List zEnt := zE 34 (.aload_n 0) 1 :: zE 35 (.iload_n 1) 1 :: q_X11_dreams_36
def q_X11_dreams_31 : List zEnt := zEa 31 (.if_icmp .gt 54) 3 85 :: q_X11_dreams_34
def q_X11_dreams_28 : List zEnt := zE 28 (.iload 6) 2 :: zE 30 (.iload_n 3) 1 :: q_X11_dreams_31
def q_X11_dreams_72 : List zEnt := zE 72 (.aload_n 0) 1 :: zEf 73 (.getfield 463) 3 11 61 209 (0, 0, 0) :: [zE 76 .nop 0]
def q_X11_dreams_82 : List zEnt := zEa 82 (.goto (-54)) 3 28 :: []
def q_X11_dreams_79 : List zEnt := zEk 79 (.iinc 6 1) 3 1 :: q_X11_dreams_82
def q_X11_dreams_76 : List zEnt := zEf 76 (.putfield 463) 3 11 61 209 (0, 0, 0) :: q_X11_dreams_79
def q_X11_dreams_91 : List zEnt := zE 91 .ireturn 1 :: []
def q_X11_dreams_89 : List zEnt := zE 89 (.iload 5) 2 :: q_X11_dreams_91
def q_X11_dreams_86 : List zEnt := zEc 86 (.invokevirtual 437) 3 188 1 171 1 :: q_X11_dreams_89
def q_X11_dreams_85 : List zEnt := zE 85 (.aload_n 0) 1 :: q_X11_dreams_86
def b_X11_dreams : List (Nat × List zEnt) := [(0, q_X11_dreams_0), (20, q_X11_dreams_20), (22, q_X11_dreams_22), (28, q_X11_dreams_28), (72, q_X11_dreams_72), (76, q_X11_dreams_76), (85, q_X11_dreams_85)]
theorem bk_X11_dreams : zchB 199 b_X11_dreams = true := by decide +kernel
noncomputable def cc_X11_dreams {ρ : Type} : Nat → zH → List zAV → (zH → zAV → Option ρ) → Option ρ := fun n σ av q => if n = 187 then g_X11_keeps σ av q else if n = 180 then g_X11_quarter σ av q else if n = 198 then g_X11_tellsOn σ av q else if n = 126 then g_X11_has σ av q else if n = 188 then g_X11_laysBack σ av q else none
theorem cs_X11_dreams {ρ : Type} {X : zX} (hX : zHX X) : zCS X (cc_X11_dreams (ρ := ρ)) := by
  intro n σ av q r h hv
  unfold cc_X11_dreams at h
  by_cases e_X11_keeps : n = 187
  · rw [if_pos e_X11_keeps] at h
    subst e_X11_keeps
    exact c_X11_keeps hX h hv
  rw [if_neg e_X11_keeps] at h
  by_cases e_X11_quarter : n = 180
  · rw [if_pos e_X11_quarter] at h
    subst e_X11_quarter
    exact c_X11_quarter hX h hv
  rw [if_neg e_X11_quarter] at h
  by_cases e_X11_tellsOn : n = 198
  · rw [if_pos e_X11_tellsOn] at h
    subst e_X11_tellsOn
    exact c_X11_tellsOn hX h hv
  rw [if_neg e_X11_tellsOn] at h
  by_cases e_X11_has : n = 126
  · rw [if_pos e_X11_has] at h
    subst e_X11_has
    exact c_X11_has hX h hv
  rw [if_neg e_X11_has] at h
  by_cases e_X11_laysBack : n = 188
  · rw [if_pos e_X11_laysBack] at h
    subst e_X11_laysBack
    exact c_X11_laysBack hX h hv
  rw [if_neg e_X11_laysBack] at h
  cases h
theorem cl_X11_dreams_X11_keeps {ρ : Type} (σ : zH) (av : List zAV) (q : zH → zAV → Option ρ) : cc_X11_dreams 187 σ av q = g_X11_keeps σ av q := rfl
theorem cl_X11_dreams_X11_quarter {ρ : Type} (σ : zH) (av : List zAV) (q : zH → zAV → Option ρ) : cc_X11_dreams 180 σ av q = g_X11_quarter σ av q := rfl
theorem cl_X11_dreams_X11_tellsOn {ρ : Type} (σ : zH) (av : List zAV) (q : zH → zAV → Option ρ) : cc_X11_dreams 198 σ av q = g_X11_tellsOn σ av q := rfl
theorem cl_X11_dreams_X11_has {ρ : Type} (σ : zH) (av : List zAV) (q : zH → zAV → Option ρ) : cc_X11_dreams 126 σ av q = g_X11_has σ av q := rfl
theorem cl_X11_dreams_X11_laysBack {ρ : Type} (σ : zH) (av : List zAV) (q : zH → zAV → Option ρ) : cc_X11_dreams 188 σ av q = g_X11_laysBack σ av q := rfl
theorem hy_X11_dreams {ρ : Type} {X : zX} (hX : zHX X) : zHY X 199 (cc_X11_dreams (ρ := ρ)) := zHX.hY hX (cs_X11_dreams hX) (zmok_all 199 (by decide))
def gl_X11_dreams_22 {ρ : Type} (f : zH → Int32 → Int32 → Int32 → Int32 → Int32 → Option ρ) (σ : zH) (L st : List zAV) : Option ρ := match L, st with
  | [.inr (.inr (.inl (11, 0))), .inl x1, _, .inl x3, .inl x4, .inl x5, _], [.inl xs1, .inr (.inr (.inl (11, 0)))] => f σ x1 x3 x4 x5 xs1
  | _, _ => none
def gl_X11_dreams_28 {ρ : Type} (f : zH → Int32 → Int32 → Int32 → Int32 → Int32 → Option ρ) (σ : zH) (L st : List zAV) : Option ρ := match L, st with
  | [.inr (.inr (.inl (11, 0))), .inl x1, _, .inl x3, .inl x4, .inl x5, .inl x6], [] => f σ x1 x3 x4 x5 x6
  | _, _ => none
def gl_X11_dreams_72 {ρ : Type} (f : zH → Int32 → Int32 → Int32 → Int32 → Int32 → Option ρ) (σ : zH) (L st : List zAV) : Option ρ := match L, st with
  | [.inr (.inr (.inl (11, 0))), .inl x1, _, .inl x3, .inl x4, .inl x5, .inl x6], [.inr (.inr (.inl (11, 0)))] => f σ x1 x3 x4 x5 x6
  | _, _ => none
def gl_X11_dreams_76 {ρ : Type} (f : zH → Int32 → Int32 → Int32 → Int32 → Int32 → Int32 → Option ρ) (σ : zH) (L st : List zAV) : Option ρ := match L, st with
  | [.inr (.inr (.inl (11, 0))), .inl x1, _, .inl x3, .inl x4, .inl x5, .inl x6], [.inl xs1, .inr (.inr (.inl (11, 0)))] => f σ x1 x3 x4 x5 x6 xs1
  | _, _ => none
def gl_X11_dreams_85 {ρ : Type} (f : zH → Int32 → Option ρ) (σ : zH) (L st : List zAV) : Option ρ := match L, st with
  | [.inr (.inr (.inl (11, 0))), _, _, _, _, .inl x5, _], [] => f σ x5
  | _, _ => none
theorem glr_X11_dreams_22 {ρ : Type} (f : zH → Int32 → Int32 → Int32 → Int32 → Int32 → Option ρ) (σ : zH) (x1 : Int32) (x3 : Int32) (x4 : Int32) (x5 : Int32) (xs1 : Int32) (y2 : zAV) (y6 : zAV) : gl_X11_dreams_22 f σ [vR 11 0, vI x1, y2, vI x3, vI x4, vI x5, y6] [vI xs1, vR 11 0] = f σ x1 x3 x4 x5 xs1 := rfl
theorem glr_X11_dreams_28 {ρ : Type} (f : zH → Int32 → Int32 → Int32 → Int32 → Int32 → Option ρ) (σ : zH) (x1 : Int32) (x3 : Int32) (x4 : Int32) (x5 : Int32) (x6 : Int32) (y2 : zAV) : gl_X11_dreams_28 f σ [vR 11 0, vI x1, y2, vI x3, vI x4, vI x5, vI x6] [] = f σ x1 x3 x4 x5 x6 := rfl
theorem glr_X11_dreams_72 {ρ : Type} (f : zH → Int32 → Int32 → Int32 → Int32 → Int32 → Option ρ) (σ : zH) (x1 : Int32) (x3 : Int32) (x4 : Int32) (x5 : Int32) (x6 : Int32) (y2 : zAV) : gl_X11_dreams_72 f σ [vR 11 0, vI x1, y2, vI x3, vI x4, vI x5, vI x6] [vR 11 0] = f σ x1 x3 x4 x5 x6 := rfl
theorem glr_X11_dreams_76 {ρ : Type} (f : zH → Int32 → Int32 → Int32 → Int32 → Int32 → Int32 → Option ρ) (σ : zH) (x1 : Int32) (x3 : Int32) (x4 : Int32) (x5 : Int32) (x6 : Int32) (xs1 : Int32) (y2 : zAV) : gl_X11_dreams_76 f σ [vR 11 0, vI x1, y2, vI x3, vI x4, vI x5, vI x6] [vI xs1, vR 11 0] = f σ x1 x3 x4 x5 x6 xs1 := rfl
theorem glr_X11_dreams_85 {ρ : Type} (f : zH → Int32 → Option ρ) (σ : zH) (x5 : Int32) (y1 : zAV) (y2 : zAV) (y3 : zAV) (y4 : zAV) (y6 : zAV) : gl_X11_dreams_85 f σ [vR 11 0, y1, y2, y3, y4, vI x5, y6] [] = f σ x5 := rfl
theorem t_X11_dreams_0 {G : Nat → zH → List zAV → List zAV → Option (zH × Int32)} (es : List zEnt) (σ : zH) (x1 : Int32) (x2 : Int32) (x3 : Int32) (x4 : Int32) (y5 : zAV) (y6 : zAV)  : zev cc_X11_dreams G 0 krI (zE 0 (.aload_n 0) 1 :: es) σ [vR 11 0, vI x1, vI x2, vI x3, vI x4, y5, y6] [] = zev cc_X11_dreams G 0 krI es σ [vR 11 0, vI x1, vI x2, vI x3, vI x4, y5, y6] [vR 11 0] := rfl
theorem t_X11_dreams_4 {G : Nat → zH → List zAV → List zAV → Option (zH × Int32)} (es : List zEnt) (σ : zH) (x1 : Int32) (x2 : Int32) (x3 : Int32) (x4 : Int32) (y5 : zAV) (y6 : zAV) (w4 : Int32) : zev cc_X11_dreams G 0 krI (zEk 4 (.iconst 1) 1 w4 :: zE 5 (.iload_n 2) 1 :: zE 6 .ishl 1 :: zE 7 (.istore 5) 2 :: zE 9 (.aload_n 0) 1 :: zE 10 (.iload_n 2) 1 :: zE 11 (.iload 4) 2 :: es) σ [vR 11 0, vI x1, vI x2, vI x3, vI x4, y5, y6] [] = zev cc_X11_dreams G 0 krI es σ [vR 11 0, vI x1, vI x2, vI x3, vI x4, vI (w4 <<< (x2 &&& 31)), y6] [vI x4, vI x2, vR 11 0] := rfl
theorem t_X11_dreams_16 {G : Nat → zH → List zAV → List zAV → Option (zH × Int32)} (es : List zEnt) (σ : zH) (x1 : Int32) (x3 : Int32) (x4 : Int32) (x5 : Int32) (y2 : zAV) (y6 : zAV) (w16 : Int32) : zev cc_X11_dreams G 0 krI (zEk 16 (.iconst 0) 1 w16 :: es) σ [vR 11 0, vI x1, y2, vI x3, vI x4, vI x5, y6] [vR 11 0] = zev cc_X11_dreams G 0 krI es σ [vR 11 0, vI x1, y2, vI x3, vI x4, vI x5, y6] [vI w16, vR 11 0] := rfl
theorem t_X11_dreams_20 {G : Nat → zH → List zAV → List zAV → Option (zH × Int32)} (es : List zEnt) (σ : zH) (x1 : Int32) (x3 : Int32) (x4 : Int32) (x5 : Int32) (y2 : zAV) (y6 : zAV) (w20 : Int32) : zev cc_X11_dreams G 0 krI (zEk 20 (.bipush (-2)) 2 w20 :: es) σ [vR 11 0, vI x1, y2, vI x3, vI x4, vI x5, y6] [vR 11 0] = zev cc_X11_dreams G 0 krI es σ [vR 11 0, vI x1, y2, vI x3, vI x4, vI x5, y6] [vI w20, vR 11 0] := rfl
theorem t_X11_dreams_25 {G : Nat → zH → List zAV → List zAV → Option (zH × Int32)} (es : List zEnt) (σ : zH) (x1 : Int32) (x3 : Int32) (x4 : Int32) (x5 : Int32) (y2 : zAV) (y6 : zAV) (w25 : Int32) : zev cc_X11_dreams G 0 krI (zEk 25 (.iconst 1) 1 w25 :: zE 26 (.istore 6) 2 :: es) σ [vR 11 0, vI x1, y2, vI x3, vI x4, vI x5, y6] [] = zev cc_X11_dreams G 0 krI es σ [vR 11 0, vI x1, y2, vI x3, vI x4, vI x5, vI w25] [] := rfl
theorem t_X11_dreams_28 {G : Nat → zH → List zAV → List zAV → Option (zH × Int32)} (es : List zEnt) (σ : zH) (x1 : Int32) (x3 : Int32) (x4 : Int32) (x5 : Int32) (x6 : Int32) (y2 : zAV)  : zev cc_X11_dreams G 0 krI (zE 28 (.iload 6) 2 :: zE 30 (.iload_n 3) 1 :: es) σ [vR 11 0, vI x1, y2, vI x3, vI x4, vI x5, vI x6] [] = zev cc_X11_dreams G 0 krI es σ [vR 11 0, vI x1, y2, vI x3, vI x4, vI x5, vI x6] [vI x3, vI x6] := rfl
theorem t_X11_dreams_34 {G : Nat → zH → List zAV → List zAV → Option (zH × Int32)} (es : List zEnt) (σ : zH) (x1 : Int32) (x3 : Int32) (x4 : Int32) (x5 : Int32) (x6 : Int32) (y2 : zAV)  : zev cc_X11_dreams G 0 krI (zE 34 (.aload_n 0) 1 :: zE 35 (.iload_n 1) 1 :: es) σ [vR 11 0, vI x1, y2, vI x3, vI x4, vI x5, vI x6] [] = zev cc_X11_dreams G 0 krI es σ [vR 11 0, vI x1, y2, vI x3, vI x4, vI x5, vI x6] [vI x1, vR 11 0] := rfl
theorem t_X11_dreams_39 {G : Nat → zH → List zAV → List zAV → Option (zH × Int32)} (es : List zEnt) (σ : zH) (x1 : Int32) (x3 : Int32) (x4 : Int32) (x5 : Int32) (x6 : Int32) (y2 : zAV)  : zev cc_X11_dreams G 0 krI (zE 39 (.aload_n 0) 1 :: zE 40 (.iload 5) 2 :: es) σ [vR 11 0, vI x1, y2, vI x3, vI x4, vI x5, vI x6] [] = zev cc_X11_dreams G 0 krI es σ [vR 11 0, vI x1, y2, vI x3, vI x4, vI x5, vI x6] [vI x5, vR 11 0] := rfl
theorem t_X11_dreams_45 {G : Nat → zH → List zAV → List zAV → Option (zH × Int32)} (es : List zEnt) (σ : zH) (x1 : Int32) (x3 : Int32) (x4 : Int32) (x6 : Int32) (xs0 : Int32) (y2 : zAV) (y5 : zAV) (w52 : Int32) : zev cc_X11_dreams G 0 krI (zE 45 (.istore 5) 2 :: zE 47 (.aload_n 0) 1 :: zE 48 (.aload_n 0) 1 :: zEf 49 (.getfield 463) 3 11 61 209 (0, 0, 0) :: zEk 52 (.bipush (-2)) 2 w52 :: es) σ [vR 11 0, vI x1, y2, vI x3, vI x4, y5, vI x6] [vI xs0] = zev cc_X11_dreams G 0 krI es σ [vR 11 0, vI x1, y2, vI x3, vI x4, vI xs0, vI x6] [vI w52, vI (σ.1 11 0 61), vR 11 0] := rfl
theorem t_X11_dreams_57 {G : Nat → zH → List zAV → List zAV → Option (zH × Int32)} (es : List zEnt) (σ : zH) (x1 : Int32) (x3 : Int32) (x4 : Int32) (x5 : Int32) (x6 : Int32) (y2 : zAV)  : zev cc_X11_dreams G 0 krI (zE 57 (.iload 5) 2 :: zE 59 (.iload 4) 2 :: es) σ [vR 11 0, vI x1, y2, vI x3, vI x4, vI x5, vI x6] [vR 11 0] = zev cc_X11_dreams G 0 krI es σ [vR 11 0, vI x1, y2, vI x3, vI x4, vI x5, vI x6] [vI x4, vI x5, vR 11 0] := rfl
theorem t_X11_dreams_67 {G : Nat → zH → List zAV → List zAV → Option (zH × Int32)} (es : List zEnt) (σ : zH) (x1 : Int32) (x3 : Int32) (x4 : Int32) (x5 : Int32) (x6 : Int32) (y2 : zAV)  : zev cc_X11_dreams G 0 krI (zE 67 (.iload 6) 2 :: es) σ [vR 11 0, vI x1, y2, vI x3, vI x4, vI x5, vI x6] [vR 11 0] = zev cc_X11_dreams G 0 krI es σ [vR 11 0, vI x1, y2, vI x3, vI x4, vI x5, vI x6] [vI x6, vR 11 0] := rfl
theorem t_X11_dreams_72 {G : Nat → zH → List zAV → List zAV → Option (zH × Int32)} (es : List zEnt) (σ : zH) (x1 : Int32) (x3 : Int32) (x4 : Int32) (x5 : Int32) (x6 : Int32) (y2 : zAV)  : zev cc_X11_dreams G 0 krI (zE 72 (.aload_n 0) 1 :: zEf 73 (.getfield 463) 3 11 61 209 (0, 0, 0) :: es) σ [vR 11 0, vI x1, y2, vI x3, vI x4, vI x5, vI x6] [vR 11 0] = zev cc_X11_dreams G 0 krI es σ [vR 11 0, vI x1, y2, vI x3, vI x4, vI x5, vI x6] [vI (σ.1 11 0 61), vR 11 0] := rfl
theorem t_X11_dreams_79 {G : Nat → zH → List zAV → List zAV → Option (zH × Int32)} (es : List zEnt) (σ : zH) (x1 : Int32) (x3 : Int32) (x4 : Int32) (x5 : Int32) (x6 : Int32) (y2 : zAV) (w79 : Int32) : zev cc_X11_dreams G 0 krI (zEk 79 (.iinc 6 1) 3 w79 :: es) σ [vR 11 0, vI x1, y2, vI x3, vI x4, vI x5, vI x6] [] = zev cc_X11_dreams G 0 krI es σ [vR 11 0, vI x1, y2, vI x3, vI x4, vI x5, vI (x6 + w79)] [] := rfl
theorem t_X11_dreams_85 {G : Nat → zH → List zAV → List zAV → Option (zH × Int32)} (es : List zEnt) (σ : zH) (x5 : Int32) (y1 : zAV) (y2 : zAV) (y3 : zAV) (y4 : zAV) (y6 : zAV)  : zev cc_X11_dreams G 0 krI (zE 85 (.aload_n 0) 1 :: es) σ [vR 11 0, y1, y2, y3, y4, vI x5, y6] [] = zev cc_X11_dreams G 0 krI es σ [vR 11 0, y1, y2, y3, y4, vI x5, y6] [vR 11 0] := rfl
theorem t_X11_dreams_89 {G : Nat → zH → List zAV → List zAV → Option (zH × Int32)} (es : List zEnt) (σ : zH) (x5 : Int32) (y0 : zAV) (y1 : zAV) (y2 : zAV) (y3 : zAV) (y4 : zAV) (y6 : zAV)  : zev cc_X11_dreams G 0 krI (zE 89 (.iload 5) 2 :: es) σ [y0, y1, y2, y3, y4, vI x5, y6] [] = zev cc_X11_dreams G 0 krI es σ [y0, y1, y2, y3, y4, vI x5, y6] [vI x5] := rfl
noncomputable def j_X11_dreams_76 (c28 : zH → Int32 → Int32 → Int32 → Int32 → Int32 → Option (zH × Int32)) (σ : zH) (x1 : Int32) (x3 : Int32) (x4 : Int32) (x5 : Int32) (x6 : Int32) (xs1 : Int32) : Option (zH × Int32) :=
  zlet (uI σ 11 0 61 xs1) fun σ1 =>
  c28 σ1 x1 x3 x4 x5 (x6 + (1 : Int32))
theorem e_X11_dreams_76 (c28 : zH → Int32 → Int32 → Int32 → Int32 → Int32 → Option (zH × Int32)) (σ : zH) (x1 : Int32) (x3 : Int32) (x4 : Int32) (x5 : Int32) (x6 : Int32) (xs1 : Int32) (y2 : zAV) : j_X11_dreams_76 c28 σ x1 x3 x4 x5 x6 xs1 = zin cc_X11_dreams (fun t => if t = 28 then some (gl_X11_dreams_28 c28) else none) 0 krI b_X11_dreams 76 σ [vR 11 0, vI x1, y2, vI x3, vI x4, vI x5, vI x6] [vI xs1, vR 11 0] := by
  unfold j_X11_dreams_76
  refine Eq.symm ((zin_b (es := q_X11_dreams_76) rfl).trans ?_)
  refine x_pf0.trans (plt fun _ => ?_)
  refine (t_X11_dreams_79 _ _ _ _ _ _ _ _ _).trans ?_
  refine x_goto.trans ?_
  exact (zrun_c rfl).trans (glr_X11_dreams_28 _ _ _ _ _ _ _ _)
theorem s_X11_dreams_76 {X : zX} (hX : zHX X) {c28 : zH → Int32 → Int32 → Int32 → Int32 → Int32 → Option (zH × Int32)} (h28 : ∀ σ L st r, gl_X11_dreams_28 c28 σ L st = some r → zGW X 199 krI 28 σ L st r) : ∀ σ L st r, gl_X11_dreams_76 (j_X11_dreams_76 c28) σ L st = some r → zGW X 199 krI 76 σ L st r := by
  intro σ L st r h
  unfold gl_X11_dreams_76 at h
  split at h
  · exact zin_ok (hy_X11_dreams hX) bk_X11_dreams (fun t f hf => by
    by_cases e28 : t = 28
    · rw [if_pos e28] at hf; subst e28; cases hf; exact h28
    rw [if_neg e28] at hf
    cases hf) ((e_X11_dreams_76 _ _ _ _ _ _ _ _ _).symm.trans h)
  · cases h
noncomputable def j_X11_dreams_72 (c28 : zH → Int32 → Int32 → Int32 → Int32 → Int32 → Option (zH × Int32)) (σ : zH) (x1 : Int32) (x3 : Int32) (x4 : Int32) (x5 : Int32) (x6 : Int32) : Option (zH × Int32) :=
  (j_X11_dreams_76 c28) σ x1 x3 x4 x5 x6 (σ.1 11 0 61)
theorem e_X11_dreams_72 (c28 : zH → Int32 → Int32 → Int32 → Int32 → Int32 → Option (zH × Int32)) (σ : zH) (x1 : Int32) (x3 : Int32) (x4 : Int32) (x5 : Int32) (x6 : Int32) (y2 : zAV) : j_X11_dreams_72 c28 σ x1 x3 x4 x5 x6 = zin cc_X11_dreams (fun t => if t = 76 then some (gl_X11_dreams_76 (j_X11_dreams_76 c28)) else none) 0 krI b_X11_dreams 72 σ [vR 11 0, vI x1, y2, vI x3, vI x4, vI x5, vI x6] [vR 11 0] := by
  unfold j_X11_dreams_72
  refine Eq.symm ((zin_b (es := q_X11_dreams_72) rfl).trans ?_)
  refine (t_X11_dreams_72 _ _ _ _ _ _ _ _).trans ?_
  refine x_cut.trans ?_
  exact (zrun_c rfl).trans (glr_X11_dreams_76 _ _ _ _ _ _ _ _ _)
theorem s_X11_dreams_72 {X : zX} (hX : zHX X) {c28 : zH → Int32 → Int32 → Int32 → Int32 → Int32 → Option (zH × Int32)} (h28 : ∀ σ L st r, gl_X11_dreams_28 c28 σ L st = some r → zGW X 199 krI 28 σ L st r) : ∀ σ L st r, gl_X11_dreams_72 (j_X11_dreams_72 c28) σ L st = some r → zGW X 199 krI 72 σ L st r := by
  intro σ L st r h
  unfold gl_X11_dreams_72 at h
  split at h
  · exact zin_ok (hy_X11_dreams hX) bk_X11_dreams (fun t f hf => by
    by_cases e76 : t = 76
    · rw [if_pos e76] at hf; subst e76; cases hf; exact (s_X11_dreams_76 hX h28)
    rw [if_neg e76] at hf
    cases hf) ((e_X11_dreams_72 _ _ _ _ _ _ _ _).symm.trans h)
  · cases h
noncomputable def k_X11_dreams_28 (c85 : zH → Int32 → Option (zH × Int32)) : Nat → zH → Int32 → Int32 → Int32 → Int32 → Int32 → Option (zH × Int32)
  | 0, _, _, _, _, _, _ => none
  | n + 1, σ, x1, x3, x4, x5, x6 =>
    if x3 < x6 then
      c85 σ x5
    else
      (d_X11_quarter σ x1).bind fun σ1 =>
      (d_X11_tellsOn σ1 x5).bind fun p2 =>
      if (p2.1.1 11 0 61) = (-2 : Int32) then
        (d_X11_has p2.1 p2.2 x4).bind fun p3 =>
        if p3.2 = 0 then
          (j_X11_dreams_72 (k_X11_dreams_28 c85 n)) p3.1 x1 x3 x4 p2.2 x6
        else
          (j_X11_dreams_76 (k_X11_dreams_28 c85 n)) p3.1 x1 x3 x4 p2.2 x6 x6
      else
        (j_X11_dreams_72 (k_X11_dreams_28 c85 n)) p2.1 x1 x3 x4 p2.2 x6
theorem e_X11_dreams_28 (c85 : zH → Int32 → Option (zH × Int32)) (n : Nat) (σ : zH) (x1 : Int32) (x3 : Int32) (x4 : Int32) (x5 : Int32) (x6 : Int32) (y2 : zAV) : k_X11_dreams_28 c85 (n + 1) σ x1 x3 x4 x5 x6 = zin cc_X11_dreams (fun t => if t = 72 then some (gl_X11_dreams_72 (j_X11_dreams_72 (k_X11_dreams_28 c85 n))) else if t = 76 then some (gl_X11_dreams_76 (j_X11_dreams_76 (k_X11_dreams_28 c85 n))) else if t = 85 then some (gl_X11_dreams_85 c85) else none) 0 krI b_X11_dreams 28 σ [vR 11 0, vI x1, y2, vI x3, vI x4, vI x5, vI x6] [] := by
  rw [k_X11_dreams_28]
  refine Eq.symm ((zin_b (es := q_X11_dreams_28) rfl).trans ?_)
  refine (t_X11_dreams_28 _ _ _ _ _ _ _ _).trans ?_
  refine x_icmp.trans (pif_gt ?_ ?_)
  · exact (zrun_c rfl).trans (glr_X11_dreams_85 _ _ _ _ _ _ _ _)
  · refine (t_X11_dreams_34 _ _ _ _ _ _ _ _).trans ?_
    refine (x_callV rfl rfl rfl rfl).trans ((cl_X11_dreams_X11_quarter _ _ _).trans ((gr_X11_quarter _ _ _).trans (pbd fun _ => ?_)))
    refine (t_X11_dreams_39 _ _ _ _ _ _ _ _).trans ?_
    refine (x_callV rfl rfl rfl rfl).trans ((cl_X11_dreams_X11_tellsOn _ _ _).trans ((gr_X11_tellsOn _ _ _).trans (pbd fun _ => ?_)))
    refine (t_X11_dreams_45 _ _ _ _ _ _ _ _ _ _).trans ?_
    refine x_icmp.trans (pif_ne ?_ ?_)
    · exact (zrun_c rfl).trans (glr_X11_dreams_72 _ _ _ _ _ _ _ _)
    · refine (t_X11_dreams_57 _ _ _ _ _ _ _ _).trans ?_
      refine (x_callS rfl rfl rfl rfl).trans ((cl_X11_dreams_X11_has _ _ _).trans ((gr_X11_has _ _ _ _).trans (pbd fun _ => ?_)))
      refine x_if.trans (pif_eq ?_ ?_)
      · exact (zrun_c rfl).trans (glr_X11_dreams_72 _ _ _ _ _ _ _ _)
      · refine (t_X11_dreams_67 _ _ _ _ _ _ _ _).trans ?_
        refine x_goto.trans ?_
        exact (zrun_c rfl).trans (glr_X11_dreams_76 _ _ _ _ _ _ _ _ _)
theorem s_X11_dreams_28 {X : zX} (hX : zHX X) {c85 : zH → Int32 → Option (zH × Int32)} (h85 : ∀ σ L st r, gl_X11_dreams_85 c85 σ L st = some r → zGW X 199 krI 85 σ L st r) : ∀ n σ L st r, gl_X11_dreams_28 (k_X11_dreams_28 c85 n) σ L st = some r → zGW X 199 krI 28 σ L st r := by
  intro n
  induction n with
  | zero =>
    intro σ L st r h
    unfold gl_X11_dreams_28 at h
    split at h <;> cases h
  | succ n ih =>
    intro σ L st r h
    unfold gl_X11_dreams_28 at h
    split at h
    · exact zin_ok (hy_X11_dreams hX) bk_X11_dreams (fun t f hf => by
      by_cases e72 : t = 72
      · rw [if_pos e72] at hf; subst e72; cases hf; exact (s_X11_dreams_72 hX ih)
      rw [if_neg e72] at hf
      by_cases e76 : t = 76
      · rw [if_pos e76] at hf; subst e76; cases hf; exact (s_X11_dreams_76 hX ih)
      rw [if_neg e76] at hf
      by_cases e85 : t = 85
      · rw [if_pos e85] at hf; subst e85; cases hf; exact h85
      rw [if_neg e85] at hf
      cases hf) ((e_X11_dreams_28 _ _ _ _ _ _ _ _ _).symm.trans h)
    · cases h
noncomputable def j_X11_dreams_85  (σ : zH) (x5 : Int32) : Option (zH × Int32) :=
  (d_X11_laysBack σ).bind fun σ1 =>
  some (σ1, x5)
theorem e_X11_dreams_85  (σ : zH) (x5 : Int32) (y1 : zAV) (y2 : zAV) (y3 : zAV) (y4 : zAV) (y6 : zAV) : j_X11_dreams_85 σ x5 = zin cc_X11_dreams (fun t => none) 0 krI b_X11_dreams 85 σ [vR 11 0, y1, y2, y3, y4, vI x5, y6] [] := by
  unfold j_X11_dreams_85
  refine Eq.symm ((zin_b (es := q_X11_dreams_85) rfl).trans ?_)
  refine (t_X11_dreams_85 _ _ _ _ _ _ _ _).trans ?_
  refine (x_callV rfl rfl rfl rfl).trans ((cl_X11_dreams_X11_laysBack _ _ _).trans ((gr_X11_laysBack _ _).trans (pbd fun _ => ?_)))
  refine (t_X11_dreams_89 _ _ _ _ _ _ _ _ _).trans ?_
  exact x_iret
theorem s_X11_dreams_85 {X : zX} (hX : zHX X)   : ∀ σ L st r, gl_X11_dreams_85 j_X11_dreams_85 σ L st = some r → zGW X 199 krI 85 σ L st r := by
  intro σ L st r h
  unfold gl_X11_dreams_85 at h
  split at h
  · exact zin_ok (hy_X11_dreams hX) bk_X11_dreams (fun t f hf => by
    cases hf) ((e_X11_dreams_85 _ _ _ _ _ _ _).symm.trans h)
  · cases h
noncomputable def j_X11_dreams_22  (σ : zH) (x1 : Int32) (x3 : Int32) (x4 : Int32) (x5 : Int32) (xs1 : Int32) : Option (zH × Int32) :=
  zlet (uI σ 11 0 61 xs1) fun σ1 =>
  (k_X11_dreams_28 j_X11_dreams_85 zN) σ1 x1 x3 x4 x5 (1 : Int32)
theorem e_X11_dreams_22  (σ : zH) (x1 : Int32) (x3 : Int32) (x4 : Int32) (x5 : Int32) (xs1 : Int32) (y2 : zAV) (y6 : zAV) : j_X11_dreams_22 σ x1 x3 x4 x5 xs1 = zin cc_X11_dreams (fun t => if t = 28 then some (gl_X11_dreams_28 (k_X11_dreams_28 j_X11_dreams_85 zN)) else none) 0 krI b_X11_dreams 22 σ [vR 11 0, vI x1, y2, vI x3, vI x4, vI x5, y6] [vI xs1, vR 11 0] := by
  unfold j_X11_dreams_22
  refine Eq.symm ((zin_b (es := q_X11_dreams_22) rfl).trans ?_)
  refine x_pf0.trans (plt fun _ => ?_)
  refine (t_X11_dreams_25 _ _ _ _ _ _ _ _ _).trans ?_
  refine x_cut.trans ?_
  exact (zrun_c rfl).trans (glr_X11_dreams_28 _ _ _ _ _ _ _ _)
theorem s_X11_dreams_22 {X : zX} (hX : zHX X)   : ∀ σ L st r, gl_X11_dreams_22 j_X11_dreams_22 σ L st = some r → zGW X 199 krI 22 σ L st r := by
  intro σ L st r h
  unfold gl_X11_dreams_22 at h
  split at h
  · exact zin_ok (hy_X11_dreams hX) bk_X11_dreams (fun t f hf => by
    by_cases e28 : t = 28
    · rw [if_pos e28] at hf; subst e28; cases hf; exact ((fun σ L st r h => s_X11_dreams_28 hX (s_X11_dreams_85 hX) zN σ L st r h))
    rw [if_neg e28] at hf
    cases hf) ((e_X11_dreams_22 _ _ _ _ _ _ _ _).symm.trans h)
  · cases h
noncomputable def d_X11_dreams (σ : zH) (xa1 : Int32) (xa2 : Int32) (xa3 : Int32) (xa4 : Int32) : Option (zH × Int32) :=
  (d_X11_keeps σ).bind fun σ1 =>
  if xa2 = xa4 then
    j_X11_dreams_22 σ1 xa1 xa3 xa4 ((1 : Int32) <<< (xa2 &&& 31)) (0 : Int32)
  else
    j_X11_dreams_22 σ1 xa1 xa3 xa4 ((1 : Int32) <<< (xa2 &&& 31)) (-2 : Int32)
theorem e_X11_dreams (σ : zH) (xa1 : Int32) (xa2 : Int32) (xa3 : Int32) (xa4 : Int32) : d_X11_dreams σ xa1 xa2 xa3 xa4 = zin cc_X11_dreams (fun t => if t = 22 then some (gl_X11_dreams_22 j_X11_dreams_22) else none) 0 krI b_X11_dreams 0 σ [vR 11 0, vI xa1, vI xa2, vI xa3, vI xa4, vU, vU] [] := by
  unfold d_X11_dreams
  refine Eq.symm ((zin_b (es := q_X11_dreams_0) rfl).trans ?_)
  refine (t_X11_dreams_0 _ _ _ _ _ _ _ _).trans ?_
  refine (x_callV rfl rfl rfl rfl).trans ((cl_X11_dreams_X11_keeps _ _ _).trans ((gr_X11_keeps _ _).trans (pbd fun _ => ?_)))
  refine (t_X11_dreams_4 _ _ _ _ _ _ _ _ _).trans ?_
  refine x_icmp.trans (pif_ne ?_ ?_)
  · refine (zrun_b (es := q_X11_dreams_20) rfl rfl).trans ?_
    refine (t_X11_dreams_20 _ _ _ _ _ _ _ _ _).trans ?_
    refine x_cut.trans ?_
    exact (zrun_c rfl).trans (glr_X11_dreams_22 _ _ _ _ _ _ _ _ _)
  · refine (t_X11_dreams_16 _ _ _ _ _ _ _ _ _).trans ?_
    refine x_goto.trans ?_
    exact (zrun_c rfl).trans (glr_X11_dreams_22 _ _ _ _ _ _ _ _ _)
noncomputable def g_X11_dreams {ρ : Type} (σ : zH) (av : List zAV) (q : zH → zAV → Option ρ) : Option ρ := match av with
  | [.inr (.inr (.inl (11, 0))), .inl xa1, .inl xa2, .inl xa3, .inl xa4] => (d_X11_dreams σ xa1 xa2 xa3 xa4).bind fun p => q p.1 (vI p.2)
  | _ => none
theorem gr_X11_dreams {ρ : Type} (σ : zH) (xa1 : Int32) (xa2 : Int32) (xa3 : Int32) (xa4 : Int32) (q : zH → zAV → Option ρ) : g_X11_dreams σ [vR 11 0, vI xa1, vI xa2, vI xa3, vI xa4] q = (d_X11_dreams σ xa1 xa2 xa3 xa4).bind fun p => q p.1 (vI p.2) := rfl
theorem c_X11_dreams {ρ : Type} {X : zX} (hX : zHX X) {σ : zH} {av : List zAV} {q : zH → zAV → Option ρ} {r : ρ} (h : g_X11_dreams σ av q = some r) (hv : ∀ a ∈ av, zval X a) : zcon X 199 σ av q r := by
  unfold g_X11_dreams at h
  split at h
  · exact zcon_I (n := 199) (ml := 7) (rc := 0) (st := 0) (kd := 11) (np := 4) (by decide +kernel) (by decide) ⟨_, _, rfl, rfl⟩ (Nat.le_of_ble_eq_true rfl) hv h (fun y h1 => (zin_ok (hy_X11_dreams hX) bk_X11_dreams (fun t f hf => by
      by_cases e22 : t = 22
      · rw [if_pos e22] at hf; subst e22; cases hf; exact (s_X11_dreams_22 hX)
      rw [if_neg e22] at hf
      cases hf) ((e_X11_dreams _ _ _ _ _).symm.trans h1)))
  · cases h
/-! SleepWavesModel.dream(III)I -/
def q_X11_dream_29 : List zEnt := zEa 29 (.goto 11) 3 40 :: []
def q_X11_dream_28 : List zEnt := zEk 28 (.iconst (-1)) 1 (-1) :: q_X11_dream_29
def q_X11_dream_25 : List zEnt := zEa 25 (.ifCond .ne 7) 3 32 :: q_X11_dream_28
def q_X11_dream_22 : List zEnt := zEc 22 (.invokestatic 173) 3 125 3 129 0 :: q_X11_dream_25
def q_X11_dream_16 : List zEnt := zE 16 (.iload_n 3) 1 :: zE 17 .i2l 1 :: (18, (.lconst 0), 1, (0, 0, 0, 0), (0, 0, 0), 0, 0, []) :: (19, (.ldc2_w 421), 3, (0, 0, 1488, 0), (0, 0, 0), 0, 96, []) :: q_X11_dream_22
def q_X11_dream_13 : List zEnt := zEa 13 (.ifCond .eq 15) 3 28 :: q_X11_dream_16
def q_X11_dream_10 : List zEnt := zEc 10 (.invokevirtual 426) 3 127 2 167 0 :: q_X11_dream_13
def q_X11_dream_8 : List zEnt := zE 8 (.aload_n 0) 1 :: zE 9 (.iload_n 2) 1 :: q_X11_dream_10
def q_X11_dream_5 : List zEnt := zEa 5 (.ifCond .eq 23) 3 28 :: q_X11_dream_8
def q_X11_dream_2 : List zEnt := zEc 2 (.invokevirtual 418) 3 164 2 145 0 :: q_X11_dream_5
def q_X11_dream_0 : List zEnt := zE 0 (.aload_n 0) 1 :: zE 1 (.iload_n 1) 1 :: q_X11_dream_2
def q_X11_dream_40 : List zEnt := zE 40 .ireturn 1 :: []
def q_X11_dream_37 : List zEnt := zEc 37 (.invokevirtual 469) 3 199 5 175 0 :: q_X11_dream_40
def q_X11_dream_32 : List zEnt := zE 32 (.aload_n 0) 1 :: zE 33 (.iload_n 1) 1 :: zE 34 (.iload_n 2) 1 :: zE 35 (.iload_n 3) 1 :: zE 36 (.iload_n 2) 1 :: q_X11_dream_37
def b_X11_dream : List (Nat × List zEnt) := [(0, q_X11_dream_0), (28, q_X11_dream_28), (32, q_X11_dream_32), (40, q_X11_dream_40)]
theorem bk_X11_dream : zchB 200 b_X11_dream = true := by decide +kernel
noncomputable def cc_X11_dream {ρ : Type} : Nat → zH → List zAV → (zH → zAV → Option ρ) → Option ρ := fun n σ av q => if n = 164 then g_X11_isLaw σ av q else if n = 127 then g_X11_isCompany σ av q else if n = 125 then g_X11_in σ av q else if n = 199 then g_X11_dreams σ av q else none
theorem cs_X11_dream {ρ : Type} {X : zX} (hX : zHX X) : zCS X (cc_X11_dream (ρ := ρ)) := by
  intro n σ av q r h hv
  unfold cc_X11_dream at h
  by_cases e_X11_isLaw : n = 164
  · rw [if_pos e_X11_isLaw] at h
    subst e_X11_isLaw
    exact c_X11_isLaw hX h hv
  rw [if_neg e_X11_isLaw] at h
  by_cases e_X11_isCompany : n = 127
  · rw [if_pos e_X11_isCompany] at h
    subst e_X11_isCompany
    exact c_X11_isCompany hX h hv
  rw [if_neg e_X11_isCompany] at h
  by_cases e_X11_in : n = 125
  · rw [if_pos e_X11_in] at h
    subst e_X11_in
    exact c_X11_in hX h hv
  rw [if_neg e_X11_in] at h
  by_cases e_X11_dreams : n = 199
  · rw [if_pos e_X11_dreams] at h
    subst e_X11_dreams
    exact c_X11_dreams hX h hv
  rw [if_neg e_X11_dreams] at h
  cases h
theorem cl_X11_dream_X11_isLaw {ρ : Type} (σ : zH) (av : List zAV) (q : zH → zAV → Option ρ) : cc_X11_dream 164 σ av q = g_X11_isLaw σ av q := rfl
theorem cl_X11_dream_X11_isCompany {ρ : Type} (σ : zH) (av : List zAV) (q : zH → zAV → Option ρ) : cc_X11_dream 127 σ av q = g_X11_isCompany σ av q := rfl
theorem cl_X11_dream_X11_in {ρ : Type} (σ : zH) (av : List zAV) (q : zH → zAV → Option ρ) : cc_X11_dream 125 σ av q = g_X11_in σ av q := rfl
theorem cl_X11_dream_X11_dreams {ρ : Type} (σ : zH) (av : List zAV) (q : zH → zAV → Option ρ) : cc_X11_dream 199 σ av q = g_X11_dreams σ av q := rfl
theorem hy_X11_dream {ρ : Type} {X : zX} (hX : zHX X) : zHY X 200 (cc_X11_dream (ρ := ρ)) := zHX.hY hX (cs_X11_dream hX) (zmok_all 200 (by decide))
theorem t_X11_dream_0 {G : Nat → zH → List zAV → List zAV → Option (zH × Int32)} (es : List zEnt) (σ : zH) (x1 : Int32) (x2 : Int32) (x3 : Int32)   : zev cc_X11_dream G 0 krI (zE 0 (.aload_n 0) 1 :: zE 1 (.iload_n 1) 1 :: es) σ [vR 11 0, vI x1, vI x2, vI x3] [] = zev cc_X11_dream G 0 krI es σ [vR 11 0, vI x1, vI x2, vI x3] [vI x1, vR 11 0] := rfl
theorem t_X11_dream_8 {G : Nat → zH → List zAV → List zAV → Option (zH × Int32)} (es : List zEnt) (σ : zH) (x1 : Int32) (x2 : Int32) (x3 : Int32)   : zev cc_X11_dream G 0 krI (zE 8 (.aload_n 0) 1 :: zE 9 (.iload_n 2) 1 :: es) σ [vR 11 0, vI x1, vI x2, vI x3] [] = zev cc_X11_dream G 0 krI es σ [vR 11 0, vI x1, vI x2, vI x3] [vI x2, vR 11 0] := rfl
theorem t_X11_dream_16 {G : Nat → zH → List zAV → List zAV → Option (zH × Int32)} (es : List zEnt) (σ : zH) (x1 : Int32) (x2 : Int32) (x3 : Int32)  (w18 : Int64) (w19 : Int64) : zev cc_X11_dream G 0 krI (zE 16 (.iload_n 3) 1 :: zE 17 .i2l 1 :: (18, (.lconst 0), 1, (0, 0, 0, 0), (0, 0, 0), 0, w18, []) :: (19, (.ldc2_w 421), 3, (0, 0, 1488, 0), (0, 0, 0), 0, w19, []) :: es) σ [vR 11 0, vI x1, vI x2, vI x3] [] = zev cc_X11_dream G 0 krI es σ [vR 11 0, vI x1, vI x2, vI x3] [vL w19, vL w18, vL x3.toInt64] := rfl
theorem t_X11_dream_28 {G : Nat → zH → List zAV → List zAV → Option (zH × Int32)} (es : List zEnt) (σ : zH)  (y0 : zAV) (y1 : zAV) (y2 : zAV) (y3 : zAV) (w28 : Int32) : zev cc_X11_dream G 0 krI (zEk 28 (.iconst (-1)) 1 w28 :: es) σ [y0, y1, y2, y3] [] = zev cc_X11_dream G 0 krI es σ [y0, y1, y2, y3] [vI w28] := rfl
theorem t_X11_dream_32 {G : Nat → zH → List zAV → List zAV → Option (zH × Int32)} (es : List zEnt) (σ : zH) (x1 : Int32) (x2 : Int32) (x3 : Int32)   : zev cc_X11_dream G 0 krI (zE 32 (.aload_n 0) 1 :: zE 33 (.iload_n 1) 1 :: zE 34 (.iload_n 2) 1 :: zE 35 (.iload_n 3) 1 :: zE 36 (.iload_n 2) 1 :: es) σ [vR 11 0, vI x1, vI x2, vI x3] [] = zev cc_X11_dream G 0 krI es σ [vR 11 0, vI x1, vI x2, vI x3] [vI x2, vI x3, vI x2, vI x1, vR 11 0] := rfl
noncomputable def d_X11_dream (σ : zH) (xa1 : Int32) (xa2 : Int32) (xa3 : Int32) : Option (zH × Int32) :=
  (d_X11_isLaw σ xa1).bind fun p1 =>
  if p1.2 = 0 then
    some (p1.1, (-1 : Int32))
  else
    (d_X11_isCompany p1.1 xa2).bind fun p2 =>
    if p2.2 = 0 then
      some (p2.1, (-1 : Int32))
    else
      (d_X11_in p2.1 xa3.toInt64 (0 : Int64) (96 : Int64)).bind fun p3 =>
      if p3.2 = 0 then
        some (p3.1, (-1 : Int32))
      else
        (d_X11_dreams p3.1 xa1 xa2 xa3 xa2).bind fun p4 =>
        some (p4.1, p4.2)
theorem e_X11_dream (σ : zH) (xa1 : Int32) (xa2 : Int32) (xa3 : Int32) : d_X11_dream σ xa1 xa2 xa3 = zin cc_X11_dream (fun t => none) 0 krI b_X11_dream 0 σ [vR 11 0, vI xa1, vI xa2, vI xa3] [] := by
  unfold d_X11_dream
  refine Eq.symm ((zin_b (es := q_X11_dream_0) rfl).trans ?_)
  refine (t_X11_dream_0 _ _ _ _ _).trans ?_
  refine (x_callV rfl rfl rfl rfl).trans ((cl_X11_dream_X11_isLaw _ _ _).trans ((gr_X11_isLaw _ _ _).trans (pbd fun _ => ?_)))
  refine x_if.trans (pif_eq ?_ ?_)
  · refine (zrun_b (es := q_X11_dream_28) rfl rfl).trans ?_
    refine (t_X11_dream_28 _ _ _ _ _ _ _).trans ?_
    refine x_goto.trans ?_
    refine (zrun_b (es := q_X11_dream_40) rfl rfl).trans ?_
    exact x_iret
  · refine (t_X11_dream_8 _ _ _ _ _).trans ?_
    refine (x_callV rfl rfl rfl rfl).trans ((cl_X11_dream_X11_isCompany _ _ _).trans ((gr_X11_isCompany _ _ _).trans (pbd fun _ => ?_)))
    refine x_if.trans (pif_eq ?_ ?_)
    · refine (zrun_b (es := q_X11_dream_28) rfl rfl).trans ?_
      refine (t_X11_dream_28 _ _ _ _ _ _ _).trans ?_
      refine x_goto.trans ?_
      refine (zrun_b (es := q_X11_dream_40) rfl rfl).trans ?_
      exact x_iret
    · refine (t_X11_dream_16 _ _ _ _ _ _ _).trans ?_
      refine (x_callS rfl rfl rfl rfl).trans ((cl_X11_dream_X11_in _ _ _).trans ((gr_X11_in _ _ _ _ _).trans (pbd fun _ => ?_)))
      refine x_if.trans (pif_ne ?_ ?_)
      · refine (zrun_b (es := q_X11_dream_32) rfl rfl).trans ?_
        refine (t_X11_dream_32 _ _ _ _ _).trans ?_
        refine (x_callV rfl rfl rfl rfl).trans ((cl_X11_dream_X11_dreams _ _ _).trans ((gr_X11_dreams _ _ _ _ _ _).trans (pbd fun _ => ?_)))
        exact x_iret
      · refine (t_X11_dream_28 _ _ _ _ _ _ _).trans ?_
        refine x_goto.trans ?_
        refine (zrun_b (es := q_X11_dream_40) rfl rfl).trans ?_
        exact x_iret
noncomputable def g_X11_dream {ρ : Type} (σ : zH) (av : List zAV) (q : zH → zAV → Option ρ) : Option ρ := match av with
  | [.inr (.inr (.inl (11, 0))), .inl xa1, .inl xa2, .inl xa3] => (d_X11_dream σ xa1 xa2 xa3).bind fun p => q p.1 (vI p.2)
  | _ => none
theorem gr_X11_dream {ρ : Type} (σ : zH) (xa1 : Int32) (xa2 : Int32) (xa3 : Int32) (q : zH → zAV → Option ρ) : g_X11_dream σ [vR 11 0, vI xa1, vI xa2, vI xa3] q = (d_X11_dream σ xa1 xa2 xa3).bind fun p => q p.1 (vI p.2) := rfl
theorem c_X11_dream {ρ : Type} {X : zX} (hX : zHX X) {σ : zH} {av : List zAV} {q : zH → zAV → Option ρ} {r : ρ} (h : g_X11_dream σ av q = some r) (hv : ∀ a ∈ av, zval X a) : zcon X 200 σ av q r := by
  unfold g_X11_dream at h
  split at h
  · exact zcon_I (n := 200) (ml := 4) (rc := 0) (st := 0) (kd := 11) (np := 3) (by decide +kernel) (by decide) ⟨_, _, rfl, rfl⟩ (Nat.le_of_ble_eq_true rfl) hv h (fun y h1 => (zin_ok (hy_X11_dream hX) bk_X11_dream (fun t f hf => by
      cases hf) ((e_X11_dream _ _ _ _).symm.trans h1)))
  · cases h
/-! SleepWavesModel.told(IIII)I -/
def q_X11_told_38 : List zEnt := zE 38 .ireturn 1 :: []
def q_X11_told_37 : List zEnt := zEk 37 (.iconst (-1)) 1 (-1) :: q_X11_told_38
def q_X11_told_34 : List zEnt := zEa 34 (.ifCond .ne 5) 3 39 :: q_X11_told_37
def q_X11_told_31 : List zEnt := zEc 31 (.invokestatic 173) 3 125 3 129 0 :: q_X11_told_34
def q_X11_told_24 : List zEnt := zE 24 (.iload 4) 2 :: zE 26 .i2l 1 :: (27, (.lconst 0), 1, (0, 0, 0, 0), (0, 0, 0), 0, 0, []) :: (28, (.ldc2_w 421), 3, (0, 0, 1488, 0), (0, 0, 0), 0, 96, []) :: q_X11_told_31
def q_X11_told_21 : List zEnt := zEa 21 (.ifCond .eq 16) 3 37 :: q_X11_told_24
def q_X11_told_18 : List zEnt := zEc 18 (.invokevirtual 426) 3 127 2 167 0 :: q_X11_told_21
def q_X11_told_16 : List zEnt := zE 16 (.aload_n 0) 1 :: zE 17 (.iload_n 3) 1 :: q_X11_told_18
def q_X11_told_13 : List zEnt := zEa 13 (.ifCond .eq 24) 3 37 :: q_X11_told_16
def q_X11_told_10 : List zEnt := zEc 10 (.invokevirtual 426) 3 127 2 167 0 :: q_X11_told_13
def q_X11_told_8 : List zEnt := zE 8 (.aload_n 0) 1 :: zE 9 (.iload_n 2) 1 :: q_X11_told_10
def q_X11_told_5 : List zEnt := zEa 5 (.ifCond .eq 32) 3 37 :: q_X11_told_8
def q_X11_told_2 : List zEnt := zEc 2 (.invokevirtual 418) 3 164 2 145 0 :: q_X11_told_5
def q_X11_told_0 : List zEnt := zE 0 (.aload_n 0) 1 :: zE 1 (.iload_n 1) 1 :: q_X11_told_2
def q_X11_told_53 : List zEnt := zE 53 .ireturn 1 :: []
def q_X11_told_48 : List zEnt := zE 48 .pop 1 :: zE 49 (.aload_n 0) 1 :: zEf 50 (.getfield 463) 3 11 61 209 (0, 0, 0) :: q_X11_told_53
def q_X11_told_45 : List zEnt := zEc 45 (.invokevirtual 469) 3 199 5 175 0 :: q_X11_told_48
def q_X11_told_39 : List zEnt := zE 39 (.aload_n 0) 1 :: zE 40 (.iload_n 1) 1 :: zE 41 (.iload_n 2) 1 :: zE 42 (.iload 4) 2 :: zE 44 (.iload_n 3) 1 :: q_X11_told_45
def b_X11_told : List (Nat × List zEnt) := [(0, q_X11_told_0), (37, q_X11_told_37), (39, q_X11_told_39)]
theorem bk_X11_told : zchB 201 b_X11_told = true := by decide +kernel
noncomputable def cc_X11_told {ρ : Type} : Nat → zH → List zAV → (zH → zAV → Option ρ) → Option ρ := fun n σ av q => if n = 164 then g_X11_isLaw σ av q else if n = 127 then g_X11_isCompany σ av q else if n = 125 then g_X11_in σ av q else if n = 199 then g_X11_dreams σ av q else none
theorem cs_X11_told {ρ : Type} {X : zX} (hX : zHX X) : zCS X (cc_X11_told (ρ := ρ)) := by
  intro n σ av q r h hv
  unfold cc_X11_told at h
  by_cases e_X11_isLaw : n = 164
  · rw [if_pos e_X11_isLaw] at h
    subst e_X11_isLaw
    exact c_X11_isLaw hX h hv
  rw [if_neg e_X11_isLaw] at h
  by_cases e_X11_isCompany : n = 127
  · rw [if_pos e_X11_isCompany] at h
    subst e_X11_isCompany
    exact c_X11_isCompany hX h hv
  rw [if_neg e_X11_isCompany] at h
  by_cases e_X11_in : n = 125
  · rw [if_pos e_X11_in] at h
    subst e_X11_in
    exact c_X11_in hX h hv
  rw [if_neg e_X11_in] at h
  by_cases e_X11_dreams : n = 199
  · rw [if_pos e_X11_dreams] at h
    subst e_X11_dreams
    exact c_X11_dreams hX h hv
  rw [if_neg e_X11_dreams] at h
  cases h
theorem cl_X11_told_X11_isLaw {ρ : Type} (σ : zH) (av : List zAV) (q : zH → zAV → Option ρ) : cc_X11_told 164 σ av q = g_X11_isLaw σ av q := rfl
theorem cl_X11_told_X11_isCompany {ρ : Type} (σ : zH) (av : List zAV) (q : zH → zAV → Option ρ) : cc_X11_told 127 σ av q = g_X11_isCompany σ av q := rfl
theorem cl_X11_told_X11_in {ρ : Type} (σ : zH) (av : List zAV) (q : zH → zAV → Option ρ) : cc_X11_told 125 σ av q = g_X11_in σ av q := rfl
theorem cl_X11_told_X11_dreams {ρ : Type} (σ : zH) (av : List zAV) (q : zH → zAV → Option ρ) : cc_X11_told 199 σ av q = g_X11_dreams σ av q := rfl
theorem hy_X11_told {ρ : Type} {X : zX} (hX : zHX X) : zHY X 201 (cc_X11_told (ρ := ρ)) := zHX.hY hX (cs_X11_told hX) (zmok_all 201 (by decide))
theorem t_X11_told_0 {G : Nat → zH → List zAV → List zAV → Option (zH × Int32)} (es : List zEnt) (σ : zH) (x1 : Int32) (x2 : Int32) (x3 : Int32) (x4 : Int32)   : zev cc_X11_told G 0 krI (zE 0 (.aload_n 0) 1 :: zE 1 (.iload_n 1) 1 :: es) σ [vR 11 0, vI x1, vI x2, vI x3, vI x4] [] = zev cc_X11_told G 0 krI es σ [vR 11 0, vI x1, vI x2, vI x3, vI x4] [vI x1, vR 11 0] := rfl
theorem t_X11_told_8 {G : Nat → zH → List zAV → List zAV → Option (zH × Int32)} (es : List zEnt) (σ : zH) (x1 : Int32) (x2 : Int32) (x3 : Int32) (x4 : Int32)   : zev cc_X11_told G 0 krI (zE 8 (.aload_n 0) 1 :: zE 9 (.iload_n 2) 1 :: es) σ [vR 11 0, vI x1, vI x2, vI x3, vI x4] [] = zev cc_X11_told G 0 krI es σ [vR 11 0, vI x1, vI x2, vI x3, vI x4] [vI x2, vR 11 0] := rfl
theorem t_X11_told_16 {G : Nat → zH → List zAV → List zAV → Option (zH × Int32)} (es : List zEnt) (σ : zH) (x1 : Int32) (x2 : Int32) (x3 : Int32) (x4 : Int32)   : zev cc_X11_told G 0 krI (zE 16 (.aload_n 0) 1 :: zE 17 (.iload_n 3) 1 :: es) σ [vR 11 0, vI x1, vI x2, vI x3, vI x4] [] = zev cc_X11_told G 0 krI es σ [vR 11 0, vI x1, vI x2, vI x3, vI x4] [vI x3, vR 11 0] := rfl
theorem t_X11_told_24 {G : Nat → zH → List zAV → List zAV → Option (zH × Int32)} (es : List zEnt) (σ : zH) (x1 : Int32) (x2 : Int32) (x3 : Int32) (x4 : Int32)  (w27 : Int64) (w28 : Int64) : zev cc_X11_told G 0 krI (zE 24 (.iload 4) 2 :: zE 26 .i2l 1 :: (27, (.lconst 0), 1, (0, 0, 0, 0), (0, 0, 0), 0, w27, []) :: (28, (.ldc2_w 421), 3, (0, 0, 1488, 0), (0, 0, 0), 0, w28, []) :: es) σ [vR 11 0, vI x1, vI x2, vI x3, vI x4] [] = zev cc_X11_told G 0 krI es σ [vR 11 0, vI x1, vI x2, vI x3, vI x4] [vL w28, vL w27, vL x4.toInt64] := rfl
theorem t_X11_told_37 {G : Nat → zH → List zAV → List zAV → Option (zH × Int32)} (es : List zEnt) (σ : zH)  (y0 : zAV) (y1 : zAV) (y2 : zAV) (y3 : zAV) (y4 : zAV) (w37 : Int32) : zev cc_X11_told G 0 krI (zEk 37 (.iconst (-1)) 1 w37 :: es) σ [y0, y1, y2, y3, y4] [] = zev cc_X11_told G 0 krI es σ [y0, y1, y2, y3, y4] [vI w37] := rfl
theorem t_X11_told_39 {G : Nat → zH → List zAV → List zAV → Option (zH × Int32)} (es : List zEnt) (σ : zH) (x1 : Int32) (x2 : Int32) (x3 : Int32) (x4 : Int32)   : zev cc_X11_told G 0 krI (zE 39 (.aload_n 0) 1 :: zE 40 (.iload_n 1) 1 :: zE 41 (.iload_n 2) 1 :: zE 42 (.iload 4) 2 :: zE 44 (.iload_n 3) 1 :: es) σ [vR 11 0, vI x1, vI x2, vI x3, vI x4] [] = zev cc_X11_told G 0 krI es σ [vR 11 0, vI x1, vI x2, vI x3, vI x4] [vI x3, vI x4, vI x2, vI x1, vR 11 0] := rfl
theorem t_X11_told_48 {G : Nat → zH → List zAV → List zAV → Option (zH × Int32)} (es : List zEnt) (σ : zH) (xs0 : Int32) (y1 : zAV) (y2 : zAV) (y3 : zAV) (y4 : zAV)  : zev cc_X11_told G 0 krI (zE 48 .pop 1 :: zE 49 (.aload_n 0) 1 :: zEf 50 (.getfield 463) 3 11 61 209 (0, 0, 0) :: es) σ [vR 11 0, y1, y2, y3, y4] [vI xs0] = zev cc_X11_told G 0 krI es σ [vR 11 0, y1, y2, y3, y4] [vI (σ.1 11 0 61)] := rfl
noncomputable def d_X11_told (σ : zH) (xa1 : Int32) (xa2 : Int32) (xa3 : Int32) (xa4 : Int32) : Option (zH × Int32) :=
  (d_X11_isLaw σ xa1).bind fun p1 =>
  if p1.2 = 0 then
    some (p1.1, (-1 : Int32))
  else
    (d_X11_isCompany p1.1 xa2).bind fun p2 =>
    if p2.2 = 0 then
      some (p2.1, (-1 : Int32))
    else
      (d_X11_isCompany p2.1 xa3).bind fun p3 =>
      if p3.2 = 0 then
        some (p3.1, (-1 : Int32))
      else
        (d_X11_in p3.1 xa4.toInt64 (0 : Int64) (96 : Int64)).bind fun p4 =>
        if p4.2 = 0 then
          some (p4.1, (-1 : Int32))
        else
          (d_X11_dreams p4.1 xa1 xa2 xa4 xa3).bind fun p5 =>
          some (p5.1, (p5.1.1 11 0 61))
theorem e_X11_told (σ : zH) (xa1 : Int32) (xa2 : Int32) (xa3 : Int32) (xa4 : Int32) : d_X11_told σ xa1 xa2 xa3 xa4 = zin cc_X11_told (fun t => none) 0 krI b_X11_told 0 σ [vR 11 0, vI xa1, vI xa2, vI xa3, vI xa4] [] := by
  unfold d_X11_told
  refine Eq.symm ((zin_b (es := q_X11_told_0) rfl).trans ?_)
  refine (t_X11_told_0 _ _ _ _ _ _).trans ?_
  refine (x_callV rfl rfl rfl rfl).trans ((cl_X11_told_X11_isLaw _ _ _).trans ((gr_X11_isLaw _ _ _).trans (pbd fun _ => ?_)))
  refine x_if.trans (pif_eq ?_ ?_)
  · refine (zrun_b (es := q_X11_told_37) rfl rfl).trans ?_
    refine (t_X11_told_37 _ _ _ _ _ _ _ _).trans ?_
    exact x_iret
  · refine (t_X11_told_8 _ _ _ _ _ _).trans ?_
    refine (x_callV rfl rfl rfl rfl).trans ((cl_X11_told_X11_isCompany _ _ _).trans ((gr_X11_isCompany _ _ _).trans (pbd fun _ => ?_)))
    refine x_if.trans (pif_eq ?_ ?_)
    · refine (zrun_b (es := q_X11_told_37) rfl rfl).trans ?_
      refine (t_X11_told_37 _ _ _ _ _ _ _ _).trans ?_
      exact x_iret
    · refine (t_X11_told_16 _ _ _ _ _ _).trans ?_
      refine (x_callV rfl rfl rfl rfl).trans ((cl_X11_told_X11_isCompany _ _ _).trans ((gr_X11_isCompany _ _ _).trans (pbd fun _ => ?_)))
      refine x_if.trans (pif_eq ?_ ?_)
      · refine (zrun_b (es := q_X11_told_37) rfl rfl).trans ?_
        refine (t_X11_told_37 _ _ _ _ _ _ _ _).trans ?_
        exact x_iret
      · refine (t_X11_told_24 _ _ _ _ _ _ _ _).trans ?_
        refine (x_callS rfl rfl rfl rfl).trans ((cl_X11_told_X11_in _ _ _).trans ((gr_X11_in _ _ _ _ _).trans (pbd fun _ => ?_)))
        refine x_if.trans (pif_ne ?_ ?_)
        · refine (zrun_b (es := q_X11_told_39) rfl rfl).trans ?_
          refine (t_X11_told_39 _ _ _ _ _ _).trans ?_
          refine (x_callV rfl rfl rfl rfl).trans ((cl_X11_told_X11_dreams _ _ _).trans ((gr_X11_dreams _ _ _ _ _ _).trans (pbd fun _ => ?_)))
          refine (t_X11_told_48 _ _ _ _ _ _ _).trans ?_
          exact x_iret
        · refine (t_X11_told_37 _ _ _ _ _ _ _ _).trans ?_
          exact x_iret
noncomputable def g_X11_told {ρ : Type} (σ : zH) (av : List zAV) (q : zH → zAV → Option ρ) : Option ρ := match av with
  | [.inr (.inr (.inl (11, 0))), .inl xa1, .inl xa2, .inl xa3, .inl xa4] => (d_X11_told σ xa1 xa2 xa3 xa4).bind fun p => q p.1 (vI p.2)
  | _ => none
theorem gr_X11_told {ρ : Type} (σ : zH) (xa1 : Int32) (xa2 : Int32) (xa3 : Int32) (xa4 : Int32) (q : zH → zAV → Option ρ) : g_X11_told σ [vR 11 0, vI xa1, vI xa2, vI xa3, vI xa4] q = (d_X11_told σ xa1 xa2 xa3 xa4).bind fun p => q p.1 (vI p.2) := rfl
theorem c_X11_told {ρ : Type} {X : zX} (hX : zHX X) {σ : zH} {av : List zAV} {q : zH → zAV → Option ρ} {r : ρ} (h : g_X11_told σ av q = some r) (hv : ∀ a ∈ av, zval X a) : zcon X 201 σ av q r := by
  unfold g_X11_told at h
  split at h
  · exact zcon_I (n := 201) (ml := 5) (rc := 0) (st := 0) (kd := 11) (np := 4) (by decide +kernel) (by decide) ⟨_, _, rfl, rfl⟩ (Nat.le_of_ble_eq_true rfl) hv h (fun y h1 => (zin_ok (hy_X11_told hX) bk_X11_told (fun t f hf => by
      cases hf) ((e_X11_told _ _ _ _ _).symm.trans h1)))
  · cases h
/-! SleepWavesModel.harm(III)I -/
def q_X11_harm_31 : List zEnt := zE 31 .ireturn 1 :: []
def q_X11_harm_30 : List zEnt := zEk 30 (.iconst (-1)) 1 (-1) :: q_X11_harm_31
def q_X11_harm_27 : List zEnt := zEa 27 (.ifCond .ne 5) 3 32 :: q_X11_harm_30
def q_X11_harm_24 : List zEnt := zEc 24 (.invokestatic 173) 3 125 3 129 0 :: q_X11_harm_27
def q_X11_harm_20 : List zEnt := zE 20 (.iload_n 3) 1 :: zE 21 .i2l 1 :: (22, (.lconst 0), 1, (0, 0, 0, 0), (0, 0, 0), 0, 0, []) :: (23, (.lconst 1), 1, (0, 0, 0, 0), (0, 0, 0), 0, 1, []) :: q_X11_harm_24
def q_X11_harm_17 : List zEnt := zEa 17 (.ifCond .eq 13) 3 30 :: q_X11_harm_20
def q_X11_harm_14 : List zEnt := zEc 14 (.invokestatic 173) 3 125 3 129 0 :: q_X11_harm_17
def q_X11_harm_8 : List zEnt := zE 8 (.iload_n 2) 1 :: zE 9 .i2l 1 :: (10, (.lconst 1), 1, (0, 0, 0, 0), (0, 0, 0), 0, 1, []) :: (11, (.ldc2_w 440), 3, (0, 0, 1603, 0), (0, 0, 0), 0, 192, []) :: q_X11_harm_14
def q_X11_harm_5 : List zEnt := zEa 5 (.ifCond .eq 25) 3 30 :: q_X11_harm_8
def q_X11_harm_2 : List zEnt := zEc 2 (.invokevirtual 418) 3 164 2 145 0 :: q_X11_harm_5
def q_X11_harm_0 : List zEnt := zE 0 (.aload_n 0) 1 :: zE 1 (.iload_n 1) 1 :: q_X11_harm_2
def q_X11_harm_40 : List zEnt := zE 40 (.istore 4) 2 :: zEk 42 (.bipush (-2)) 2 (-2) :: zE 44 (.istore 5) 2 :: zEk 46 (.iconst 0) 1 0 :: zE 47 (.istore 6) 2 :: [zE 49 .nop 0]
def q_X11_harm_37 : List zEnt := zEc 37 (.invokevirtual 444) 3 189 5 168 0 :: q_X11_harm_40
def q_X11_harm_32 : List zEnt := zE 32 (.aload_n 0) 1 :: zE 33 (.iload_n 1) 1 :: zEk 34 (.iconst (-1)) 1 (-1) :: zE 35 (.iload_n 2) 1 :: zEk 36 (.iconst 1) 1 1 :: q_X11_harm_37
def q_X11_harm_90 : List zEnt := zEa 90 (.goto 5) 3 95 :: []
def q_X11_harm_88 : List zEnt := zE 88 (.iload 6) 2 :: q_X11_harm_90
def q_X11_harm_85 : List zEnt := zEa 85 (.if_icmp .ge 8) 3 93 :: q_X11_harm_88
def q_X11_harm_81 : List zEnt := zE 81 (.iload 7) 2 :: zE 83 (.iload 4) 2 :: q_X11_harm_85
def q_X11_harm_78 : List zEnt := zEf 78 (.putfield 94) 3 11 29 177 (0, 0, 0) :: q_X11_harm_81
def q_X11_harm_74 : List zEnt := zE 74 (.istore 7) 2 :: zE 76 (.aload_n 0) 1 :: zEk 77 (.iconst (-1)) 1 (-1) :: q_X11_harm_78
def q_X11_harm_71 : List zEnt := zEc 71 (.invokevirtual 444) 3 189 5 168 0 :: q_X11_harm_74
def q_X11_harm_66 : List zEnt := zE 66 (.aload_n 0) 1 :: zE 67 (.iload_n 1) 1 :: zEk 68 (.iconst (-1)) 1 (-1) :: zE 69 (.iload_n 2) 1 :: zEk 70 (.iconst 1) 1 1 :: q_X11_harm_71
def q_X11_harm_63 : List zEnt := zEf 63 (.putfield 94) 3 11 29 177 (0, 0, 0) :: q_X11_harm_66
def q_X11_harm_60 : List zEnt := zE 60 (.aload_n 0) 1 :: zE 61 (.iload 6) 2 :: q_X11_harm_63
def q_X11_harm_57 : List zEnt := zEa 57 (.if_icmp .ge 62) 3 119 :: q_X11_harm_60
def q_X11_harm_56 : List zEnt := zE 56 .iaload 1 :: q_X11_harm_57
def q_X11_harm_49 : List zEnt := zE 49 (.iload 6) 2 :: zE 51 (.aload_n 0) 1 :: zEf 52 (.getfield 7) 3 11 1 149 (2, 42, 0) :: zEk 55 (.iconst 1) 1 1 :: q_X11_harm_56
def q_X11_harm_93 : List zEnt := zE 93 (.iload 5) 2 :: [zE 95 .nop 0]
def q_X11_harm_106 : List zEnt := zEa 106 (.goto 5) 3 111 :: []
def q_X11_harm_104 : List zEnt := zE 104 (.iload 7) 2 :: q_X11_harm_106
def q_X11_harm_101 : List zEnt := zEa 101 (.if_icmp .ge 8) 3 109 :: q_X11_harm_104
def q_X11_harm_95 : List zEnt := zE 95 (.istore 5) 2 :: zE 97 (.iload 7) 2 :: zE 99 (.iload 4) 2 :: q_X11_harm_101
def q_X11_harm_109 : List zEnt := zE 109 (.iload 4) 2 :: [zE 111 .nop 0]
def q_X11_harm_116 : List zEnt := zEa 116 (.goto (-67)) 3 49 :: []
def q_X11_harm_111 : List zEnt := zE 111 (.istore 4) 2 :: zEk 113 (.iinc 6 1) 3 1 :: q_X11_harm_116
def q_X11_harm_132 : List zEnt := zEa 132 (.goto 5) 3 137 :: []
def q_X11_harm_130 : List zEnt := zE 130 (.iload 5) 2 :: q_X11_harm_132
def q_X11_harm_127 : List zEnt := zEa 127 (.ifCond .ne 8) 3 135 :: q_X11_harm_130
def q_X11_harm_126 : List zEnt := zE 126 (.iload_n 3) 1 :: q_X11_harm_127
def q_X11_harm_123 : List zEnt := zEa 123 (.if_icmp .eq 7) 3 130 :: q_X11_harm_126
def q_X11_harm_119 : List zEnt := zE 119 (.iload 5) 2 :: zEk 121 (.bipush (-2)) 2 (-2) :: q_X11_harm_123
def q_X11_harm_137 : List zEnt := zE 137 .ireturn 1 :: []
def q_X11_harm_135 : List zEnt := zE 135 (.iload 4) 2 :: q_X11_harm_137
def b_X11_harm : List (Nat × List zEnt) := [(0, q_X11_harm_0), (30, q_X11_harm_30), (32, q_X11_harm_32), (49, q_X11_harm_49), (93, q_X11_harm_93), (95, q_X11_harm_95), (109, q_X11_harm_109), (111, q_X11_harm_111), (119, q_X11_harm_119), (130, q_X11_harm_130), (135, q_X11_harm_135), (137, q_X11_harm_137)]
theorem bk_X11_harm : zchB 202 b_X11_harm = true := by decide +kernel
noncomputable def cc_X11_harm {ρ : Type} : Nat → zH → List zAV → (zH → zAV → Option ρ) → Option ρ := fun n σ av q => if n = 164 then g_X11_isLaw σ av q else if n = 125 then g_X11_in σ av q else if n = 189 then g_X11_tries σ av q else none
theorem cs_X11_harm {ρ : Type} {X : zX} (hX : zHX X) : zCS X (cc_X11_harm (ρ := ρ)) := by
  intro n σ av q r h hv
  unfold cc_X11_harm at h
  by_cases e_X11_isLaw : n = 164
  · rw [if_pos e_X11_isLaw] at h
    subst e_X11_isLaw
    exact c_X11_isLaw hX h hv
  rw [if_neg e_X11_isLaw] at h
  by_cases e_X11_in : n = 125
  · rw [if_pos e_X11_in] at h
    subst e_X11_in
    exact c_X11_in hX h hv
  rw [if_neg e_X11_in] at h
  by_cases e_X11_tries : n = 189
  · rw [if_pos e_X11_tries] at h
    subst e_X11_tries
    exact c_X11_tries hX h hv
  rw [if_neg e_X11_tries] at h
  cases h
theorem cl_X11_harm_X11_isLaw {ρ : Type} (σ : zH) (av : List zAV) (q : zH → zAV → Option ρ) : cc_X11_harm 164 σ av q = g_X11_isLaw σ av q := rfl
theorem cl_X11_harm_X11_in {ρ : Type} (σ : zH) (av : List zAV) (q : zH → zAV → Option ρ) : cc_X11_harm 125 σ av q = g_X11_in σ av q := rfl
theorem cl_X11_harm_X11_tries {ρ : Type} (σ : zH) (av : List zAV) (q : zH → zAV → Option ρ) : cc_X11_harm 189 σ av q = g_X11_tries σ av q := rfl
theorem hy_X11_harm {ρ : Type} {X : zX} (hX : zHX X) : zHY X 202 (cc_X11_harm (ρ := ρ)) := zHX.hY hX (cs_X11_harm hX) (zmok_all 202 (by decide))
def gl_X11_harm_49 {ρ : Type} (f : zH → Int32 → Int32 → Int32 → Int32 → Int32 → Int32 → Option ρ) (σ : zH) (L st : List zAV) : Option ρ := match L, st with
  | [.inr (.inr (.inl (11, 0))), .inl x1, .inl x2, .inl x3, .inl x4, .inl x5, .inl x6, _], [] => f σ x1 x2 x3 x4 x5 x6
  | _, _ => none
def gl_X11_harm_95 {ρ : Type} (f : zH → Int32 → Int32 → Int32 → Int32 → Int32 → Int32 → Int32 → Option ρ) (σ : zH) (L st : List zAV) : Option ρ := match L, st with
  | [.inr (.inr (.inl (11, 0))), .inl x1, .inl x2, .inl x3, .inl x4, _, .inl x6, .inl x7], [.inl xs0] => f σ x1 x2 x3 x4 x6 x7 xs0
  | _, _ => none
def gl_X11_harm_111 {ρ : Type} (f : zH → Int32 → Int32 → Int32 → Int32 → Int32 → Int32 → Option ρ) (σ : zH) (L st : List zAV) : Option ρ := match L, st with
  | [.inr (.inr (.inl (11, 0))), .inl x1, .inl x2, .inl x3, _, .inl x5, .inl x6, _], [.inl xs0] => f σ x1 x2 x3 x5 x6 xs0
  | _, _ => none
def gl_X11_harm_119 {ρ : Type} (f : zH → Int32 → Int32 → Int32 → Option ρ) (σ : zH) (L st : List zAV) : Option ρ := match L, st with
  | [_, _, _, .inl x3, .inl x4, .inl x5, _, _], [] => f σ x3 x4 x5
  | _, _ => none
theorem glr_X11_harm_49 {ρ : Type} (f : zH → Int32 → Int32 → Int32 → Int32 → Int32 → Int32 → Option ρ) (σ : zH) (x1 : Int32) (x2 : Int32) (x3 : Int32) (x4 : Int32) (x5 : Int32) (x6 : Int32) (y7 : zAV) : gl_X11_harm_49 f σ [vR 11 0, vI x1, vI x2, vI x3, vI x4, vI x5, vI x6, y7] [] = f σ x1 x2 x3 x4 x5 x6 := rfl
theorem glr_X11_harm_95 {ρ : Type} (f : zH → Int32 → Int32 → Int32 → Int32 → Int32 → Int32 → Int32 → Option ρ) (σ : zH) (x1 : Int32) (x2 : Int32) (x3 : Int32) (x4 : Int32) (x6 : Int32) (x7 : Int32) (xs0 : Int32) (y5 : zAV) : gl_X11_harm_95 f σ [vR 11 0, vI x1, vI x2, vI x3, vI x4, y5, vI x6, vI x7] [vI xs0] = f σ x1 x2 x3 x4 x6 x7 xs0 := rfl
theorem glr_X11_harm_111 {ρ : Type} (f : zH → Int32 → Int32 → Int32 → Int32 → Int32 → Int32 → Option ρ) (σ : zH) (x1 : Int32) (x2 : Int32) (x3 : Int32) (x5 : Int32) (x6 : Int32) (xs0 : Int32) (y4 : zAV) (y7 : zAV) : gl_X11_harm_111 f σ [vR 11 0, vI x1, vI x2, vI x3, y4, vI x5, vI x6, y7] [vI xs0] = f σ x1 x2 x3 x5 x6 xs0 := rfl
theorem glr_X11_harm_119 {ρ : Type} (f : zH → Int32 → Int32 → Int32 → Option ρ) (σ : zH) (x3 : Int32) (x4 : Int32) (x5 : Int32) (y0 : zAV) (y1 : zAV) (y2 : zAV) (y6 : zAV) (y7 : zAV) : gl_X11_harm_119 f σ [y0, y1, y2, vI x3, vI x4, vI x5, y6, y7] [] = f σ x3 x4 x5 := rfl
theorem t_X11_harm_0 {G : Nat → zH → List zAV → List zAV → Option (zH × Int32)} (es : List zEnt) (σ : zH) (x1 : Int32) (x2 : Int32) (x3 : Int32) (y4 : zAV) (y5 : zAV) (y6 : zAV) (y7 : zAV)  : zev cc_X11_harm G 0 krI (zE 0 (.aload_n 0) 1 :: zE 1 (.iload_n 1) 1 :: es) σ [vR 11 0, vI x1, vI x2, vI x3, y4, y5, y6, y7] [] = zev cc_X11_harm G 0 krI es σ [vR 11 0, vI x1, vI x2, vI x3, y4, y5, y6, y7] [vI x1, vR 11 0] := rfl
theorem t_X11_harm_8 {G : Nat → zH → List zAV → List zAV → Option (zH × Int32)} (es : List zEnt) (σ : zH) (x1 : Int32) (x2 : Int32) (x3 : Int32) (y4 : zAV) (y5 : zAV) (y6 : zAV) (y7 : zAV) (w10 : Int64) (w11 : Int64) : zev cc_X11_harm G 0 krI (zE 8 (.iload_n 2) 1 :: zE 9 .i2l 1 :: (10, (.lconst 1), 1, (0, 0, 0, 0), (0, 0, 0), 0, w10, []) :: (11, (.ldc2_w 440), 3, (0, 0, 1603, 0), (0, 0, 0), 0, w11, []) :: es) σ [vR 11 0, vI x1, vI x2, vI x3, y4, y5, y6, y7] [] = zev cc_X11_harm G 0 krI es σ [vR 11 0, vI x1, vI x2, vI x3, y4, y5, y6, y7] [vL w11, vL w10, vL x2.toInt64] := rfl
theorem t_X11_harm_20 {G : Nat → zH → List zAV → List zAV → Option (zH × Int32)} (es : List zEnt) (σ : zH) (x1 : Int32) (x2 : Int32) (x3 : Int32) (y4 : zAV) (y5 : zAV) (y6 : zAV) (y7 : zAV) (w22 : Int64) (w23 : Int64) : zev cc_X11_harm G 0 krI (zE 20 (.iload_n 3) 1 :: zE 21 .i2l 1 :: (22, (.lconst 0), 1, (0, 0, 0, 0), (0, 0, 0), 0, w22, []) :: (23, (.lconst 1), 1, (0, 0, 0, 0), (0, 0, 0), 0, w23, []) :: es) σ [vR 11 0, vI x1, vI x2, vI x3, y4, y5, y6, y7] [] = zev cc_X11_harm G 0 krI es σ [vR 11 0, vI x1, vI x2, vI x3, y4, y5, y6, y7] [vL w23, vL w22, vL x3.toInt64] := rfl
theorem t_X11_harm_30 {G : Nat → zH → List zAV → List zAV → Option (zH × Int32)} (es : List zEnt) (σ : zH)  (y0 : zAV) (y1 : zAV) (y2 : zAV) (y3 : zAV) (y4 : zAV) (y5 : zAV) (y6 : zAV) (y7 : zAV) (w30 : Int32) : zev cc_X11_harm G 0 krI (zEk 30 (.iconst (-1)) 1 w30 :: es) σ [y0, y1, y2, y3, y4, y5, y6, y7] [] = zev cc_X11_harm G 0 krI es σ [y0, y1, y2, y3, y4, y5, y6, y7] [vI w30] := rfl
theorem t_X11_harm_32 {G : Nat → zH → List zAV → List zAV → Option (zH × Int32)} (es : List zEnt) (σ : zH) (x1 : Int32) (x2 : Int32) (x3 : Int32) (y4 : zAV) (y5 : zAV) (y6 : zAV) (y7 : zAV) (w34 : Int32) (w36 : Int32) : zev cc_X11_harm G 0 krI (zE 32 (.aload_n 0) 1 :: zE 33 (.iload_n 1) 1 :: zEk 34 (.iconst (-1)) 1 w34 :: zE 35 (.iload_n 2) 1 :: zEk 36 (.iconst 1) 1 w36 :: es) σ [vR 11 0, vI x1, vI x2, vI x3, y4, y5, y6, y7] [] = zev cc_X11_harm G 0 krI es σ [vR 11 0, vI x1, vI x2, vI x3, y4, y5, y6, y7] [vI w36, vI x2, vI w34, vI x1, vR 11 0] := rfl
theorem t_X11_harm_40 {G : Nat → zH → List zAV → List zAV → Option (zH × Int32)} (es : List zEnt) (σ : zH) (x1 : Int32) (x2 : Int32) (x3 : Int32) (xs0 : Int32) (y4 : zAV) (y5 : zAV) (y6 : zAV) (y7 : zAV) (w42 : Int32) (w46 : Int32) : zev cc_X11_harm G 0 krI (zE 40 (.istore 4) 2 :: zEk 42 (.bipush (-2)) 2 w42 :: zE 44 (.istore 5) 2 :: zEk 46 (.iconst 0) 1 w46 :: zE 47 (.istore 6) 2 :: es) σ [vR 11 0, vI x1, vI x2, vI x3, y4, y5, y6, y7] [vI xs0] = zev cc_X11_harm G 0 krI es σ [vR 11 0, vI x1, vI x2, vI x3, vI xs0, vI w42, vI w46, y7] [] := rfl
theorem t_X11_harm_49 {G : Nat → zH → List zAV → List zAV → Option (zH × Int32)} (es : List zEnt) (σ : zH) (x1 : Int32) (x2 : Int32) (x3 : Int32) (x4 : Int32) (x5 : Int32) (x6 : Int32) (y7 : zAV) (w55 : Int32) : zev cc_X11_harm G 0 krI (zE 49 (.iload 6) 2 :: zE 51 (.aload_n 0) 1 :: zEf 52 (.getfield 7) 3 11 1 149 (2, 42, 0) :: zEk 55 (.iconst 1) 1 w55 :: es) σ [vR 11 0, vI x1, vI x2, vI x3, vI x4, vI x5, vI x6, y7] [] = zev cc_X11_harm G 0 krI es σ [vR 11 0, vI x1, vI x2, vI x3, vI x4, vI x5, vI x6, y7] [vI w55, vR 42 0, vI x6] := rfl
theorem t_X11_harm_60 {G : Nat → zH → List zAV → List zAV → Option (zH × Int32)} (es : List zEnt) (σ : zH) (x1 : Int32) (x2 : Int32) (x3 : Int32) (x4 : Int32) (x5 : Int32) (x6 : Int32) (y7 : zAV)  : zev cc_X11_harm G 0 krI (zE 60 (.aload_n 0) 1 :: zE 61 (.iload 6) 2 :: es) σ [vR 11 0, vI x1, vI x2, vI x3, vI x4, vI x5, vI x6, y7] [] = zev cc_X11_harm G 0 krI es σ [vR 11 0, vI x1, vI x2, vI x3, vI x4, vI x5, vI x6, y7] [vI x6, vR 11 0] := rfl
theorem t_X11_harm_66 {G : Nat → zH → List zAV → List zAV → Option (zH × Int32)} (es : List zEnt) (σ : zH) (x1 : Int32) (x2 : Int32) (x3 : Int32) (x4 : Int32) (x5 : Int32) (x6 : Int32) (y7 : zAV) (w68 : Int32) (w70 : Int32) : zev cc_X11_harm G 0 krI (zE 66 (.aload_n 0) 1 :: zE 67 (.iload_n 1) 1 :: zEk 68 (.iconst (-1)) 1 w68 :: zE 69 (.iload_n 2) 1 :: zEk 70 (.iconst 1) 1 w70 :: es) σ [vR 11 0, vI x1, vI x2, vI x3, vI x4, vI x5, vI x6, y7] [] = zev cc_X11_harm G 0 krI es σ [vR 11 0, vI x1, vI x2, vI x3, vI x4, vI x5, vI x6, y7] [vI w70, vI x2, vI w68, vI x1, vR 11 0] := rfl
theorem t_X11_harm_74 {G : Nat → zH → List zAV → List zAV → Option (zH × Int32)} (es : List zEnt) (σ : zH) (x1 : Int32) (x2 : Int32) (x3 : Int32) (x4 : Int32) (x5 : Int32) (x6 : Int32) (xs0 : Int32) (y7 : zAV) (w77 : Int32) : zev cc_X11_harm G 0 krI (zE 74 (.istore 7) 2 :: zE 76 (.aload_n 0) 1 :: zEk 77 (.iconst (-1)) 1 w77 :: es) σ [vR 11 0, vI x1, vI x2, vI x3, vI x4, vI x5, vI x6, y7] [vI xs0] = zev cc_X11_harm G 0 krI es σ [vR 11 0, vI x1, vI x2, vI x3, vI x4, vI x5, vI x6, vI xs0] [vI w77, vR 11 0] := rfl
theorem t_X11_harm_81 {G : Nat → zH → List zAV → List zAV → Option (zH × Int32)} (es : List zEnt) (σ : zH) (x1 : Int32) (x2 : Int32) (x3 : Int32) (x4 : Int32) (x5 : Int32) (x6 : Int32) (x7 : Int32)   : zev cc_X11_harm G 0 krI (zE 81 (.iload 7) 2 :: zE 83 (.iload 4) 2 :: es) σ [vR 11 0, vI x1, vI x2, vI x3, vI x4, vI x5, vI x6, vI x7] [] = zev cc_X11_harm G 0 krI es σ [vR 11 0, vI x1, vI x2, vI x3, vI x4, vI x5, vI x6, vI x7] [vI x4, vI x7] := rfl
theorem t_X11_harm_88 {G : Nat → zH → List zAV → List zAV → Option (zH × Int32)} (es : List zEnt) (σ : zH) (x1 : Int32) (x2 : Int32) (x3 : Int32) (x4 : Int32) (x6 : Int32) (x7 : Int32) (y5 : zAV)  : zev cc_X11_harm G 0 krI (zE 88 (.iload 6) 2 :: es) σ [vR 11 0, vI x1, vI x2, vI x3, vI x4, y5, vI x6, vI x7] [] = zev cc_X11_harm G 0 krI es σ [vR 11 0, vI x1, vI x2, vI x3, vI x4, y5, vI x6, vI x7] [vI x6] := rfl
theorem t_X11_harm_93 {G : Nat → zH → List zAV → List zAV → Option (zH × Int32)} (es : List zEnt) (σ : zH) (x1 : Int32) (x2 : Int32) (x3 : Int32) (x4 : Int32) (x5 : Int32) (x6 : Int32) (x7 : Int32)   : zev cc_X11_harm G 0 krI (zE 93 (.iload 5) 2 :: es) σ [vR 11 0, vI x1, vI x2, vI x3, vI x4, vI x5, vI x6, vI x7] [] = zev cc_X11_harm G 0 krI es σ [vR 11 0, vI x1, vI x2, vI x3, vI x4, vI x5, vI x6, vI x7] [vI x5] := rfl
theorem t_X11_harm_95 {G : Nat → zH → List zAV → List zAV → Option (zH × Int32)} (es : List zEnt) (σ : zH) (x1 : Int32) (x2 : Int32) (x3 : Int32) (x4 : Int32) (x6 : Int32) (x7 : Int32) (xs0 : Int32) (y5 : zAV)  : zev cc_X11_harm G 0 krI (zE 95 (.istore 5) 2 :: zE 97 (.iload 7) 2 :: zE 99 (.iload 4) 2 :: es) σ [vR 11 0, vI x1, vI x2, vI x3, vI x4, y5, vI x6, vI x7] [vI xs0] = zev cc_X11_harm G 0 krI es σ [vR 11 0, vI x1, vI x2, vI x3, vI x4, vI xs0, vI x6, vI x7] [vI x4, vI x7] := rfl
theorem t_X11_harm_104 {G : Nat → zH → List zAV → List zAV → Option (zH × Int32)} (es : List zEnt) (σ : zH) (x1 : Int32) (x2 : Int32) (x3 : Int32) (x5 : Int32) (x6 : Int32) (x7 : Int32) (y4 : zAV)  : zev cc_X11_harm G 0 krI (zE 104 (.iload 7) 2 :: es) σ [vR 11 0, vI x1, vI x2, vI x3, y4, vI x5, vI x6, vI x7] [] = zev cc_X11_harm G 0 krI es σ [vR 11 0, vI x1, vI x2, vI x3, y4, vI x5, vI x6, vI x7] [vI x7] := rfl
theorem t_X11_harm_109 {G : Nat → zH → List zAV → List zAV → Option (zH × Int32)} (es : List zEnt) (σ : zH) (x1 : Int32) (x2 : Int32) (x3 : Int32) (x4 : Int32) (x5 : Int32) (x6 : Int32) (y7 : zAV)  : zev cc_X11_harm G 0 krI (zE 109 (.iload 4) 2 :: es) σ [vR 11 0, vI x1, vI x2, vI x3, vI x4, vI x5, vI x6, y7] [] = zev cc_X11_harm G 0 krI es σ [vR 11 0, vI x1, vI x2, vI x3, vI x4, vI x5, vI x6, y7] [vI x4] := rfl
theorem t_X11_harm_111 {G : Nat → zH → List zAV → List zAV → Option (zH × Int32)} (es : List zEnt) (σ : zH) (x1 : Int32) (x2 : Int32) (x3 : Int32) (x5 : Int32) (x6 : Int32) (xs0 : Int32) (y4 : zAV) (y7 : zAV) (w113 : Int32) : zev cc_X11_harm G 0 krI (zE 111 (.istore 4) 2 :: zEk 113 (.iinc 6 1) 3 w113 :: es) σ [vR 11 0, vI x1, vI x2, vI x3, y4, vI x5, vI x6, y7] [vI xs0] = zev cc_X11_harm G 0 krI es σ [vR 11 0, vI x1, vI x2, vI x3, vI xs0, vI x5, vI (x6 + w113), y7] [] := rfl
theorem t_X11_harm_119 {G : Nat → zH → List zAV → List zAV → Option (zH × Int32)} (es : List zEnt) (σ : zH) (x3 : Int32) (x4 : Int32) (x5 : Int32) (y0 : zAV) (y1 : zAV) (y2 : zAV) (y6 : zAV) (y7 : zAV) (w121 : Int32) : zev cc_X11_harm G 0 krI (zE 119 (.iload 5) 2 :: zEk 121 (.bipush (-2)) 2 w121 :: es) σ [y0, y1, y2, vI x3, vI x4, vI x5, y6, y7] [] = zev cc_X11_harm G 0 krI es σ [y0, y1, y2, vI x3, vI x4, vI x5, y6, y7] [vI w121, vI x5] := rfl
theorem t_X11_harm_126 {G : Nat → zH → List zAV → List zAV → Option (zH × Int32)} (es : List zEnt) (σ : zH) (x3 : Int32) (x4 : Int32) (x5 : Int32) (y0 : zAV) (y1 : zAV) (y2 : zAV) (y6 : zAV) (y7 : zAV)  : zev cc_X11_harm G 0 krI (zE 126 (.iload_n 3) 1 :: es) σ [y0, y1, y2, vI x3, vI x4, vI x5, y6, y7] [] = zev cc_X11_harm G 0 krI es σ [y0, y1, y2, vI x3, vI x4, vI x5, y6, y7] [vI x3] := rfl
theorem t_X11_harm_130 {G : Nat → zH → List zAV → List zAV → Option (zH × Int32)} (es : List zEnt) (σ : zH) (x5 : Int32) (y0 : zAV) (y1 : zAV) (y2 : zAV) (y3 : zAV) (y4 : zAV) (y6 : zAV) (y7 : zAV)  : zev cc_X11_harm G 0 krI (zE 130 (.iload 5) 2 :: es) σ [y0, y1, y2, y3, y4, vI x5, y6, y7] [] = zev cc_X11_harm G 0 krI es σ [y0, y1, y2, y3, y4, vI x5, y6, y7] [vI x5] := rfl
theorem t_X11_harm_135 {G : Nat → zH → List zAV → List zAV → Option (zH × Int32)} (es : List zEnt) (σ : zH) (x4 : Int32) (y0 : zAV) (y1 : zAV) (y2 : zAV) (y3 : zAV) (y5 : zAV) (y6 : zAV) (y7 : zAV)  : zev cc_X11_harm G 0 krI (zE 135 (.iload 4) 2 :: es) σ [y0, y1, y2, y3, vI x4, y5, y6, y7] [] = zev cc_X11_harm G 0 krI es σ [y0, y1, y2, y3, vI x4, y5, y6, y7] [vI x4] := rfl
noncomputable def j_X11_harm_111 (c49 : zH → Int32 → Int32 → Int32 → Int32 → Int32 → Int32 → Option (zH × Int32)) (σ : zH) (x1 : Int32) (x2 : Int32) (x3 : Int32) (x5 : Int32) (x6 : Int32) (xs0 : Int32) : Option (zH × Int32) :=
  c49 σ x1 x2 x3 xs0 x5 (x6 + (1 : Int32))
theorem e_X11_harm_111 (c49 : zH → Int32 → Int32 → Int32 → Int32 → Int32 → Int32 → Option (zH × Int32)) (σ : zH) (x1 : Int32) (x2 : Int32) (x3 : Int32) (x5 : Int32) (x6 : Int32) (xs0 : Int32) (y4 : zAV) (y7 : zAV) : j_X11_harm_111 c49 σ x1 x2 x3 x5 x6 xs0 = zin cc_X11_harm (fun t => if t = 49 then some (gl_X11_harm_49 c49) else none) 0 krI b_X11_harm 111 σ [vR 11 0, vI x1, vI x2, vI x3, y4, vI x5, vI x6, y7] [vI xs0] := by
  unfold j_X11_harm_111
  refine Eq.symm ((zin_b (es := q_X11_harm_111) rfl).trans ?_)
  refine (t_X11_harm_111 _ _ _ _ _ _ _ _ _ _ _).trans ?_
  refine x_goto.trans ?_
  exact (zrun_c rfl).trans (glr_X11_harm_49 _ _ _ _ _ _ _ _ _)
theorem s_X11_harm_111 {X : zX} (hX : zHX X) {c49 : zH → Int32 → Int32 → Int32 → Int32 → Int32 → Int32 → Option (zH × Int32)} (h49 : ∀ σ L st r, gl_X11_harm_49 c49 σ L st = some r → zGW X 202 krI 49 σ L st r) : ∀ σ L st r, gl_X11_harm_111 (j_X11_harm_111 c49) σ L st = some r → zGW X 202 krI 111 σ L st r := by
  intro σ L st r h
  unfold gl_X11_harm_111 at h
  split at h
  · exact zin_ok (hy_X11_harm hX) bk_X11_harm (fun t f hf => by
    by_cases e49 : t = 49
    · rw [if_pos e49] at hf; subst e49; cases hf; exact h49
    rw [if_neg e49] at hf
    cases hf) ((e_X11_harm_111 _ _ _ _ _ _ _ _ _ _).symm.trans h)
  · cases h
noncomputable def j_X11_harm_95 (c49 : zH → Int32 → Int32 → Int32 → Int32 → Int32 → Int32 → Option (zH × Int32)) (σ : zH) (x1 : Int32) (x2 : Int32) (x3 : Int32) (x4 : Int32) (x6 : Int32) (x7 : Int32) (xs0 : Int32) : Option (zH × Int32) :=
  if x7 < x4 then
    (j_X11_harm_111 c49) σ x1 x2 x3 xs0 x6 x7
  else
    (j_X11_harm_111 c49) σ x1 x2 x3 xs0 x6 x4
theorem e_X11_harm_95 (c49 : zH → Int32 → Int32 → Int32 → Int32 → Int32 → Int32 → Option (zH × Int32)) (σ : zH) (x1 : Int32) (x2 : Int32) (x3 : Int32) (x4 : Int32) (x6 : Int32) (x7 : Int32) (xs0 : Int32) (y5 : zAV) : j_X11_harm_95 c49 σ x1 x2 x3 x4 x6 x7 xs0 = zin cc_X11_harm (fun t => if t = 111 then some (gl_X11_harm_111 (j_X11_harm_111 c49)) else none) 0 krI b_X11_harm 95 σ [vR 11 0, vI x1, vI x2, vI x3, vI x4, y5, vI x6, vI x7] [vI xs0] := by
  unfold j_X11_harm_95
  refine Eq.symm ((zin_b (es := q_X11_harm_95) rfl).trans ?_)
  refine (t_X11_harm_95 _ _ _ _ _ _ _ _ _ _).trans ?_
  refine x_icmp.trans (pif_ge ?_ ?_)
  · refine (zrun_b (es := q_X11_harm_109) rfl rfl).trans ?_
    refine (t_X11_harm_109 _ _ _ _ _ _ _ _ _).trans ?_
    refine x_cut.trans ?_
    exact (zrun_c rfl).trans (glr_X11_harm_111 _ _ _ _ _ _ _ _ _ _)
  · refine (t_X11_harm_104 _ _ _ _ _ _ _ _ _).trans ?_
    refine x_goto.trans ?_
    exact (zrun_c rfl).trans (glr_X11_harm_111 _ _ _ _ _ _ _ _ _ _)
theorem s_X11_harm_95 {X : zX} (hX : zHX X) {c49 : zH → Int32 → Int32 → Int32 → Int32 → Int32 → Int32 → Option (zH × Int32)} (h49 : ∀ σ L st r, gl_X11_harm_49 c49 σ L st = some r → zGW X 202 krI 49 σ L st r) : ∀ σ L st r, gl_X11_harm_95 (j_X11_harm_95 c49) σ L st = some r → zGW X 202 krI 95 σ L st r := by
  intro σ L st r h
  unfold gl_X11_harm_95 at h
  split at h
  · exact zin_ok (hy_X11_harm hX) bk_X11_harm (fun t f hf => by
    by_cases e111 : t = 111
    · rw [if_pos e111] at hf; subst e111; cases hf; exact (s_X11_harm_111 hX h49)
    rw [if_neg e111] at hf
    cases hf) ((e_X11_harm_95 _ _ _ _ _ _ _ _ _ _).symm.trans h)
  · cases h
noncomputable def k_X11_harm_49 (c119 : zH → Int32 → Int32 → Int32 → Option (zH × Int32)) : Nat → zH → Int32 → Int32 → Int32 → Int32 → Int32 → Int32 → Option (zH × Int32)
  | 0, _, _, _, _, _, _, _ => none
  | n + 1, σ, x1, x2, x3, x4, x5, x6 =>
    if x6 < (σ.1 42 0 1) then
      zlet (uI σ 11 0 29 x6) fun σ1 =>
      (d_X11_tries σ1 x1 (-1 : Int32) x2 (1 : Int32)).bind fun p2 =>
      zlet (uI p2.1 11 0 29 (-1 : Int32)) fun σ3 =>
      if p2.2 < x4 then
        (j_X11_harm_95 (k_X11_harm_49 c119 n)) σ3 x1 x2 x3 x4 x6 p2.2 x6
      else
        (j_X11_harm_95 (k_X11_harm_49 c119 n)) σ3 x1 x2 x3 x4 x6 p2.2 x5
    else
      c119 σ x3 x4 x5
theorem e_X11_harm_49 (c119 : zH → Int32 → Int32 → Int32 → Option (zH × Int32)) (n : Nat) (σ : zH) (x1 : Int32) (x2 : Int32) (x3 : Int32) (x4 : Int32) (x5 : Int32) (x6 : Int32) (y7 : zAV) : k_X11_harm_49 c119 (n + 1) σ x1 x2 x3 x4 x5 x6 = zin cc_X11_harm (fun t => if t = 95 then some (gl_X11_harm_95 (j_X11_harm_95 (k_X11_harm_49 c119 n))) else if t = 119 then some (gl_X11_harm_119 c119) else none) 0 krI b_X11_harm 49 σ [vR 11 0, vI x1, vI x2, vI x3, vI x4, vI x5, vI x6, y7] [] := by
  rw [k_X11_harm_49]
  refine Eq.symm ((zin_b (es := q_X11_harm_49) rfl).trans ?_)
  refine (t_X11_harm_49 _ _ _ _ _ _ _ _ _ _).trans ?_
  refine ((x_iald (N := 11) rfl rfl).trans (ix_l 1 (by decide +kernel))).trans ?_
  refine x_icmp.trans (pif_ge ?_ ?_)
  · exact (zrun_c rfl).trans (glr_X11_harm_119 _ _ _ _ _ _ _ _ _ _)
  · refine (t_X11_harm_60 _ _ _ _ _ _ _ _ _).trans ?_
    refine x_pf0.trans (plt fun _ => ?_)
    refine (t_X11_harm_66 _ _ _ _ _ _ _ _ _ _ _).trans ?_
    refine (x_callV rfl rfl rfl rfl).trans ((cl_X11_harm_X11_tries _ _ _).trans ((gr_X11_tries _ _ _ _ _ _).trans (pbd fun _ => ?_)))
    refine (t_X11_harm_74 _ _ _ _ _ _ _ _ _ _ _).trans ?_
    refine x_pf0.trans (plt fun _ => ?_)
    refine (t_X11_harm_81 _ _ _ _ _ _ _ _ _).trans ?_
    refine x_icmp.trans (pif_ge ?_ ?_)
    · refine (zrun_b (es := q_X11_harm_93) rfl rfl).trans ?_
      refine (t_X11_harm_93 _ _ _ _ _ _ _ _ _).trans ?_
      refine x_cut.trans ?_
      exact (zrun_c rfl).trans (glr_X11_harm_95 _ _ _ _ _ _ _ _ _ _)
    · refine (t_X11_harm_88 _ _ _ _ _ _ _ _ _).trans ?_
      refine x_goto.trans ?_
      exact (zrun_c rfl).trans (glr_X11_harm_95 _ _ _ _ _ _ _ _ _ _)
theorem s_X11_harm_49 {X : zX} (hX : zHX X) {c119 : zH → Int32 → Int32 → Int32 → Option (zH × Int32)} (h119 : ∀ σ L st r, gl_X11_harm_119 c119 σ L st = some r → zGW X 202 krI 119 σ L st r) : ∀ n σ L st r, gl_X11_harm_49 (k_X11_harm_49 c119 n) σ L st = some r → zGW X 202 krI 49 σ L st r := by
  intro n
  induction n with
  | zero =>
    intro σ L st r h
    unfold gl_X11_harm_49 at h
    split at h <;> cases h
  | succ n ih =>
    intro σ L st r h
    unfold gl_X11_harm_49 at h
    split at h
    · exact zin_ok (hy_X11_harm hX) bk_X11_harm (fun t f hf => by
      by_cases e95 : t = 95
      · rw [if_pos e95] at hf; subst e95; cases hf; exact (s_X11_harm_95 hX ih)
      rw [if_neg e95] at hf
      by_cases e119 : t = 119
      · rw [if_pos e119] at hf; subst e119; cases hf; exact h119
      rw [if_neg e119] at hf
      cases hf) ((e_X11_harm_49 _ _ _ _ _ _ _ _ _ _).symm.trans h)
    · cases h
noncomputable def j_X11_harm_119  (σ : zH) (x3 : Int32) (x4 : Int32) (x5 : Int32) : Option (zH × Int32) :=
  if x5 = (-2 : Int32) then
    some (σ, x5)
  else
    if x3 = 0 then
      some (σ, x5)
    else
      some (σ, x4)
theorem e_X11_harm_119  (σ : zH) (x3 : Int32) (x4 : Int32) (x5 : Int32) (y0 : zAV) (y1 : zAV) (y2 : zAV) (y6 : zAV) (y7 : zAV) : j_X11_harm_119 σ x3 x4 x5 = zin cc_X11_harm (fun t => none) 0 krI b_X11_harm 119 σ [y0, y1, y2, vI x3, vI x4, vI x5, y6, y7] [] := by
  unfold j_X11_harm_119
  refine Eq.symm ((zin_b (es := q_X11_harm_119) rfl).trans ?_)
  refine (t_X11_harm_119 _ _ _ _ _ _ _ _ _ _ _).trans ?_
  refine x_icmp.trans (pif_eq ?_ ?_)
  · refine (zrun_b (es := q_X11_harm_130) rfl rfl).trans ?_
    refine (t_X11_harm_130 _ _ _ _ _ _ _ _ _ _).trans ?_
    refine x_goto.trans ?_
    refine (zrun_b (es := q_X11_harm_137) rfl rfl).trans ?_
    exact x_iret
  · refine (t_X11_harm_126 _ _ _ _ _ _ _ _ _ _).trans ?_
    refine x_if.trans (pif_ne ?_ ?_)
    · refine (zrun_b (es := q_X11_harm_135) rfl rfl).trans ?_
      refine (t_X11_harm_135 _ _ _ _ _ _ _ _ _ _).trans ?_
      exact x_iret
    · refine (t_X11_harm_130 _ _ _ _ _ _ _ _ _ _).trans ?_
      refine x_goto.trans ?_
      refine (zrun_b (es := q_X11_harm_137) rfl rfl).trans ?_
      exact x_iret
theorem s_X11_harm_119 {X : zX} (hX : zHX X)   : ∀ σ L st r, gl_X11_harm_119 j_X11_harm_119 σ L st = some r → zGW X 202 krI 119 σ L st r := by
  intro σ L st r h
  unfold gl_X11_harm_119 at h
  split at h
  · exact zin_ok (hy_X11_harm hX) bk_X11_harm (fun t f hf => by
    cases hf) ((e_X11_harm_119 _ _ _ _ _ _ _ _ _).symm.trans h)
  · cases h
noncomputable def d_X11_harm (σ : zH) (xa1 : Int32) (xa2 : Int32) (xa3 : Int32) : Option (zH × Int32) :=
  (d_X11_isLaw σ xa1).bind fun p1 =>
  if p1.2 = 0 then
    some (p1.1, (-1 : Int32))
  else
    (d_X11_in p1.1 xa2.toInt64 (1 : Int64) (192 : Int64)).bind fun p2 =>
    if p2.2 = 0 then
      some (p2.1, (-1 : Int32))
    else
      (d_X11_in p2.1 xa3.toInt64 (0 : Int64) (1 : Int64)).bind fun p3 =>
      if p3.2 = 0 then
        some (p3.1, (-1 : Int32))
      else
        (d_X11_tries p3.1 xa1 (-1 : Int32) xa2 (1 : Int32)).bind fun p4 =>
        (k_X11_harm_49 j_X11_harm_119 zN) p4.1 xa1 xa2 xa3 p4.2 (-2 : Int32) (0 : Int32)
theorem e_X11_harm (σ : zH) (xa1 : Int32) (xa2 : Int32) (xa3 : Int32) : d_X11_harm σ xa1 xa2 xa3 = zin cc_X11_harm (fun t => if t = 49 then some (gl_X11_harm_49 (k_X11_harm_49 j_X11_harm_119 zN)) else none) 0 krI b_X11_harm 0 σ [vR 11 0, vI xa1, vI xa2, vI xa3, vU, vU, vU, vU] [] := by
  unfold d_X11_harm
  refine Eq.symm ((zin_b (es := q_X11_harm_0) rfl).trans ?_)
  refine (t_X11_harm_0 _ _ _ _ _ _ _ _ _).trans ?_
  refine (x_callV rfl rfl rfl rfl).trans ((cl_X11_harm_X11_isLaw _ _ _).trans ((gr_X11_isLaw _ _ _).trans (pbd fun _ => ?_)))
  refine x_if.trans (pif_eq ?_ ?_)
  · refine (zrun_b (es := q_X11_harm_30) rfl rfl).trans ?_
    refine (t_X11_harm_30 _ _ _ _ _ _ _ _ _ _ _).trans ?_
    exact x_iret
  · refine (t_X11_harm_8 _ _ _ _ _ _ _ _ _ _ _).trans ?_
    refine (x_callS rfl rfl rfl rfl).trans ((cl_X11_harm_X11_in _ _ _).trans ((gr_X11_in _ _ _ _ _).trans (pbd fun _ => ?_)))
    refine x_if.trans (pif_eq ?_ ?_)
    · refine (zrun_b (es := q_X11_harm_30) rfl rfl).trans ?_
      refine (t_X11_harm_30 _ _ _ _ _ _ _ _ _ _ _).trans ?_
      exact x_iret
    · refine (t_X11_harm_20 _ _ _ _ _ _ _ _ _ _ _).trans ?_
      refine (x_callS rfl rfl rfl rfl).trans ((cl_X11_harm_X11_in _ _ _).trans ((gr_X11_in _ _ _ _ _).trans (pbd fun _ => ?_)))
      refine x_if.trans (pif_ne ?_ ?_)
      · refine (zrun_b (es := q_X11_harm_32) rfl rfl).trans ?_
        refine (t_X11_harm_32 _ _ _ _ _ _ _ _ _ _ _).trans ?_
        refine (x_callV rfl rfl rfl rfl).trans ((cl_X11_harm_X11_tries _ _ _).trans ((gr_X11_tries _ _ _ _ _ _).trans (pbd fun _ => ?_)))
        refine (t_X11_harm_40 _ _ _ _ _ _ _ _ _ _ _ _).trans ?_
        refine x_cut.trans ?_
        exact (zrun_c rfl).trans (glr_X11_harm_49 _ _ _ _ _ _ _ _ _)
      · refine (t_X11_harm_30 _ _ _ _ _ _ _ _ _ _ _).trans ?_
        exact x_iret
noncomputable def g_X11_harm {ρ : Type} (σ : zH) (av : List zAV) (q : zH → zAV → Option ρ) : Option ρ := match av with
  | [.inr (.inr (.inl (11, 0))), .inl xa1, .inl xa2, .inl xa3] => (d_X11_harm σ xa1 xa2 xa3).bind fun p => q p.1 (vI p.2)
  | _ => none
theorem gr_X11_harm {ρ : Type} (σ : zH) (xa1 : Int32) (xa2 : Int32) (xa3 : Int32) (q : zH → zAV → Option ρ) : g_X11_harm σ [vR 11 0, vI xa1, vI xa2, vI xa3] q = (d_X11_harm σ xa1 xa2 xa3).bind fun p => q p.1 (vI p.2) := rfl
theorem c_X11_harm {ρ : Type} {X : zX} (hX : zHX X) {σ : zH} {av : List zAV} {q : zH → zAV → Option ρ} {r : ρ} (h : g_X11_harm σ av q = some r) (hv : ∀ a ∈ av, zval X a) : zcon X 202 σ av q r := by
  unfold g_X11_harm at h
  split at h
  · exact zcon_I (n := 202) (ml := 8) (rc := 0) (st := 0) (kd := 11) (np := 3) (by decide +kernel) (by decide) ⟨_, _, rfl, rfl⟩ (Nat.le_of_ble_eq_true rfl) hv h (fun y h1 => (zin_ok (hy_X11_harm hX) bk_X11_harm (fun t f hf => by
      by_cases e49 : t = 49
      · rw [if_pos e49] at hf; subst e49; cases hf; exact ((fun σ L st r h => s_X11_harm_49 hX (s_X11_harm_119 hX) zN σ L st r h))
      rw [if_neg e49] at hf
      cases hf) ((e_X11_harm _ _ _ _).symm.trans h1)))
  · cases h
/-! SleepWavesModel.log(I)I -/
def q_X11_log_25 : List zEnt := zEa 25 (.goto 4) 3 29 :: []
def q_X11_log_24 : List zEnt := zE 24 .iaload 1 :: q_X11_log_25
def q_X11_log_17 : List zEnt := zE 17 (.aload_n 0) 1 :: zEf 18 (.getfield 82) 3 11 25 173 (2, 66, 0) :: zE 21 (.iload_n 1) 1 :: zEk 22 (.iconst 1) 1 1 :: zE 23 .isub 1 :: q_X11_log_24
def q_X11_log_14 : List zEnt := zEa 14 (.ifCond .eq 14) 3 28 :: q_X11_log_17
def q_X11_log_11 : List zEnt := zEc 11 (.invokestatic 173) 3 125 3 129 0 :: q_X11_log_14
def q_X11_log_10 : List zEnt := zE 10 .i2l 1 :: q_X11_log_11
def q_X11_log_9 : List zEnt := zE 9 .iaload 1 :: q_X11_log_10
def q_X11_log_0 : List zEnt := zE 0 (.iload_n 1) 1 :: zE 1 .i2l 1 :: (2, (.lconst 1), 1, (0, 0, 0, 0), (0, 0, 0), 0, 1, []) :: zE 3 (.aload_n 0) 1 :: zEf 4 (.getfield 7) 3 11 1 149 (2, 42, 0) :: zEk 7 (.bipush 9) 2 9 :: q_X11_log_9
def q_X11_log_29 : List zEnt := zE 29 .ireturn 1 :: []
def q_X11_log_28 : List zEnt := zEk 28 (.iconst (-1)) 1 (-1) :: q_X11_log_29
def b_X11_log : List (Nat × List zEnt) := [(0, q_X11_log_0), (28, q_X11_log_28), (29, q_X11_log_29)]
theorem bk_X11_log : zchB 203 b_X11_log = true := by decide +kernel
noncomputable def cc_X11_log {ρ : Type} : Nat → zH → List zAV → (zH → zAV → Option ρ) → Option ρ := fun n σ av q => if n = 125 then g_X11_in σ av q else none
theorem cs_X11_log {ρ : Type} {X : zX} (hX : zHX X) : zCS X (cc_X11_log (ρ := ρ)) := by
  intro n σ av q r h hv
  unfold cc_X11_log at h
  by_cases e_X11_in : n = 125
  · rw [if_pos e_X11_in] at h
    subst e_X11_in
    exact c_X11_in hX h hv
  rw [if_neg e_X11_in] at h
  cases h
theorem cl_X11_log_X11_in {ρ : Type} (σ : zH) (av : List zAV) (q : zH → zAV → Option ρ) : cc_X11_log 125 σ av q = g_X11_in σ av q := rfl
theorem hy_X11_log {ρ : Type} {X : zX} (hX : zHX X) : zHY X 203 (cc_X11_log (ρ := ρ)) := zHX.hY hX (cs_X11_log hX) (zmok_all 203 (by decide))
theorem t_X11_log_0 {G : Nat → zH → List zAV → List zAV → Option (zH × Int32)} (es : List zEnt) (σ : zH) (x1 : Int32)  (w2 : Int64) (w7 : Int32) : zev cc_X11_log G 0 krI (zE 0 (.iload_n 1) 1 :: zE 1 .i2l 1 :: (2, (.lconst 1), 1, (0, 0, 0, 0), (0, 0, 0), 0, w2, []) :: zE 3 (.aload_n 0) 1 :: zEf 4 (.getfield 7) 3 11 1 149 (2, 42, 0) :: zEk 7 (.bipush 9) 2 w7 :: es) σ [vR 11 0, vI x1] [] = zev cc_X11_log G 0 krI es σ [vR 11 0, vI x1] [vI w7, vR 42 0, vL w2, vL x1.toInt64] := rfl
theorem t_X11_log_10 {G : Nat → zH → List zAV → List zAV → Option (zH × Int32)} (es : List zEnt) (σ : zH) (x1 : Int32) (zs0 : Int64) (zs1 : Int64) (xs2 : Int32)   : zev cc_X11_log G 0 krI (zE 10 .i2l 1 :: es) σ [vR 11 0, vI x1] [vI xs2, vL zs1, vL zs0] = zev cc_X11_log G 0 krI es σ [vR 11 0, vI x1] [vL xs2.toInt64, vL zs1, vL zs0] := rfl
theorem t_X11_log_17 {G : Nat → zH → List zAV → List zAV → Option (zH × Int32)} (es : List zEnt) (σ : zH) (x1 : Int32)  (w22 : Int32) : zev cc_X11_log G 0 krI (zE 17 (.aload_n 0) 1 :: zEf 18 (.getfield 82) 3 11 25 173 (2, 66, 0) :: zE 21 (.iload_n 1) 1 :: zEk 22 (.iconst 1) 1 w22 :: zE 23 .isub 1 :: es) σ [vR 11 0, vI x1] [] = zev cc_X11_log G 0 krI es σ [vR 11 0, vI x1] [vI (x1 - w22), vR 66 0] := rfl
theorem t_X11_log_28 {G : Nat → zH → List zAV → List zAV → Option (zH × Int32)} (es : List zEnt) (σ : zH)  (y0 : zAV) (y1 : zAV) (w28 : Int32) : zev cc_X11_log G 0 krI (zEk 28 (.iconst (-1)) 1 w28 :: es) σ [y0, y1] [] = zev cc_X11_log G 0 krI es σ [y0, y1] [vI w28] := rfl
noncomputable def d_X11_log (σ : zH) (xa1 : Int32) : Option (zH × Int32) :=
  (d_X11_in σ xa1.toInt64 (1 : Int64) ((σ.1 42 0 9).toInt64)).bind fun p1 =>
  if p1.2 = 0 then
    some (p1.1, (-1 : Int32))
  else
    ix (xa1 - (1 : Int32)) 192 fun j2 =>
    some (p1.1, (p1.1.1 66 0 j2))
theorem e_X11_log (σ : zH) (xa1 : Int32) : d_X11_log σ xa1 = zin cc_X11_log (fun t => none) 0 krI b_X11_log 0 σ [vR 11 0, vI xa1] [] := by
  unfold d_X11_log
  refine Eq.symm ((zin_b (es := q_X11_log_0) rfl).trans ?_)
  refine (t_X11_log_0 _ _ _ _ _).trans ?_
  refine ((x_iald (N := 11) rfl rfl).trans (ix_l 9 (by decide +kernel))).trans ?_
  refine (t_X11_log_10 _ _ _ _ _ _).trans ?_
  refine (x_callS rfl rfl rfl rfl).trans ((cl_X11_log_X11_in _ _ _).trans ((gr_X11_in _ _ _ _ _).trans (pbd fun _ => ?_)))
  refine x_if.trans (pif_eq ?_ ?_)
  · refine (zrun_b (es := q_X11_log_28) rfl rfl).trans ?_
    refine (t_X11_log_28 _ _ _ _ _).trans ?_
    exact x_iret
  · refine (t_X11_log_17 _ _ _ _).trans ?_
    refine (x_iald (N := 192) rfl rfl).trans (pix fun _ => ?_)
    refine x_goto.trans ?_
    refine (zrun_b (es := q_X11_log_29) rfl rfl).trans ?_
    exact x_iret
noncomputable def g_X11_log {ρ : Type} (σ : zH) (av : List zAV) (q : zH → zAV → Option ρ) : Option ρ := match av with
  | [.inr (.inr (.inl (11, 0))), .inl xa1] => (d_X11_log σ xa1).bind fun p => q p.1 (vI p.2)
  | _ => none
theorem gr_X11_log {ρ : Type} (σ : zH) (xa1 : Int32) (q : zH → zAV → Option ρ) : g_X11_log σ [vR 11 0, vI xa1] q = (d_X11_log σ xa1).bind fun p => q p.1 (vI p.2) := rfl
theorem c_X11_log {ρ : Type} {X : zX} (hX : zHX X) {σ : zH} {av : List zAV} {q : zH → zAV → Option ρ} {r : ρ} (h : g_X11_log σ av q = some r) (hv : ∀ a ∈ av, zval X a) : zcon X 203 σ av q r := by
  unfold g_X11_log at h
  split at h
  · exact zcon_I (n := 203) (ml := 2) (rc := 0) (st := 0) (kd := 11) (np := 1) (by decide +kernel) (by decide) ⟨_, _, rfl, rfl⟩ (Nat.le_of_ble_eq_true rfl) hv h (fun y h1 => (zin_ok (hy_X11_log hX) bk_X11_log (fun t f hf => by
      cases hf) ((e_X11_log _ _).symm.trans h1)))
  · cases h
/-! SleepWavesModel.both(II)I -/
def q_X11_both__22 : List zEnt := zE 22 .ireturn 1 :: []
def q_X11_both__21 : List zEnt := zEk 21 (.iconst (-1)) 1 (-1) :: q_X11_both__22
def q_X11_both__18 : List zEnt := zEa 18 (.if_icmp .ne 5) 3 23 :: q_X11_both__21
def q_X11_both__16 : List zEnt := zE 16 (.iload_n 1) 1 :: zE 17 (.iload_n 2) 1 :: q_X11_both__18
def q_X11_both__13 : List zEnt := zEa 13 (.ifCond .eq 8) 3 21 :: q_X11_both__16
def q_X11_both__10 : List zEnt := zEc 10 (.invokevirtual 426) 3 127 2 167 0 :: q_X11_both__13
def q_X11_both__8 : List zEnt := zE 8 (.aload_n 0) 1 :: zE 9 (.iload_n 2) 1 :: q_X11_both__10
def q_X11_both__5 : List zEnt := zEa 5 (.ifCond .eq 16) 3 21 :: q_X11_both__8
def q_X11_both__2 : List zEnt := zEc 2 (.invokevirtual 426) 3 127 2 167 0 :: q_X11_both__5
def q_X11_both__0 : List zEnt := zE 0 (.aload_n 0) 1 :: zE 1 (.iload_n 1) 1 :: q_X11_both__2
def q_X11_both__23 : List zEnt := zEk 23 (.iconst 0) 1 0 :: zE 24 (.istore_n 3) 1 :: zEk 25 (.iconst 0) 1 0 :: zE 26 (.istore 4) 2 :: [zE 28 .nop 0]
def q_X11_both__70 : List zEnt := zEa 70 (.goto 4) 3 74 :: []
def q_X11_both__69 : List zEnt := zEk 69 (.iconst 1) 1 1 :: q_X11_both__70
def q_X11_both__66 : List zEnt := zEa 66 (.ifCond .eq 7) 3 73 :: q_X11_both__69
def q_X11_both__63 : List zEnt := zEc 63 (.invokestatic 177) 3 126 2 154 0 :: q_X11_both__66
def q_X11_both__62 : List zEnt := zE 62 (.iload_n 2) 1 :: q_X11_both__63
def q_X11_both__61 : List zEnt := zE 61 .iaload 1 :: q_X11_both__62
def q_X11_both__55 : List zEnt := zE 55 (.aload_n 0) 1 :: zEf 56 (.getfield 82) 3 11 25 173 (2, 66, 0) :: zE 59 (.iload 4) 2 :: q_X11_both__61
def q_X11_both__52 : List zEnt := zEa 52 (.ifCond .eq 21) 3 73 :: q_X11_both__55
def q_X11_both__49 : List zEnt := zEc 49 (.invokestatic 177) 3 126 2 154 0 :: q_X11_both__52
def q_X11_both__48 : List zEnt := zE 48 (.iload_n 1) 1 :: q_X11_both__49
def q_X11_both__47 : List zEnt := zE 47 .iaload 1 :: q_X11_both__48
def q_X11_both__40 : List zEnt := zE 40 (.iload_n 3) 1 :: zE 41 (.aload_n 0) 1 :: zEf 42 (.getfield 82) 3 11 25 173 (2, 66, 0) :: zE 45 (.iload 4) 2 :: q_X11_both__47
def q_X11_both__37 : List zEnt := zEa 37 (.if_icmp .ge 45) 3 82 :: q_X11_both__40
def q_X11_both__36 : List zEnt := zE 36 .iaload 1 :: q_X11_both__37
def q_X11_both__28 : List zEnt := zE 28 (.iload 4) 2 :: zE 30 (.aload_n 0) 1 :: zEf 31 (.getfield 7) 3 11 1 149 (2, 42, 0) :: zEk 34 (.bipush 9) 2 9 :: q_X11_both__36
def q_X11_both__73 : List zEnt := zEk 73 (.iconst 0) 1 0 :: [zE 74 .nop 0]
def q_X11_both__79 : List zEnt := zEa 79 (.goto (-51)) 3 28 :: []
def q_X11_both__74 : List zEnt := zE 74 .iadd 1 :: zE 75 (.istore_n 3) 1 :: zEk 76 (.iinc 4 1) 3 1 :: q_X11_both__79
def q_X11_both__83 : List zEnt := zE 83 .ireturn 1 :: []
def q_X11_both__82 : List zEnt := zE 82 (.iload_n 3) 1 :: q_X11_both__83
def b_X11_both_ : List (Nat × List zEnt) := [(0, q_X11_both__0), (21, q_X11_both__21), (23, q_X11_both__23), (28, q_X11_both__28), (73, q_X11_both__73), (74, q_X11_both__74), (82, q_X11_both__82)]
theorem bk_X11_both_ : zchB 204 b_X11_both_ = true := by decide +kernel
noncomputable def cc_X11_both_ {ρ : Type} : Nat → zH → List zAV → (zH → zAV → Option ρ) → Option ρ := fun n σ av q => if n = 127 then g_X11_isCompany σ av q else if n = 126 then g_X11_has σ av q else none
theorem cs_X11_both_ {ρ : Type} {X : zX} (hX : zHX X) : zCS X (cc_X11_both_ (ρ := ρ)) := by
  intro n σ av q r h hv
  unfold cc_X11_both_ at h
  by_cases e_X11_isCompany : n = 127
  · rw [if_pos e_X11_isCompany] at h
    subst e_X11_isCompany
    exact c_X11_isCompany hX h hv
  rw [if_neg e_X11_isCompany] at h
  by_cases e_X11_has : n = 126
  · rw [if_pos e_X11_has] at h
    subst e_X11_has
    exact c_X11_has hX h hv
  rw [if_neg e_X11_has] at h
  cases h
theorem cl_X11_both__X11_isCompany {ρ : Type} (σ : zH) (av : List zAV) (q : zH → zAV → Option ρ) : cc_X11_both_ 127 σ av q = g_X11_isCompany σ av q := rfl
theorem cl_X11_both__X11_has {ρ : Type} (σ : zH) (av : List zAV) (q : zH → zAV → Option ρ) : cc_X11_both_ 126 σ av q = g_X11_has σ av q := rfl
theorem hy_X11_both_ {ρ : Type} {X : zX} (hX : zHX X) : zHY X 204 (cc_X11_both_ (ρ := ρ)) := zHX.hY hX (cs_X11_both_ hX) (zmok_all 204 (by decide))
def gl_X11_both__28 {ρ : Type} (f : zH → Int32 → Int32 → Int32 → Int32 → Option ρ) (σ : zH) (L st : List zAV) : Option ρ := match L, st with
  | [.inr (.inr (.inl (11, 0))), .inl x1, .inl x2, .inl x3, .inl x4], [] => f σ x1 x2 x3 x4
  | _, _ => none
def gl_X11_both__73 {ρ : Type} (f : zH → Int32 → Int32 → Int32 → Int32 → Option ρ) (σ : zH) (L st : List zAV) : Option ρ := match L, st with
  | [.inr (.inr (.inl (11, 0))), .inl x1, .inl x2, _, .inl x4], [.inl xs0] => f σ x1 x2 x4 xs0
  | _, _ => none
def gl_X11_both__74 {ρ : Type} (f : zH → Int32 → Int32 → Int32 → Int32 → Int32 → Option ρ) (σ : zH) (L st : List zAV) : Option ρ := match L, st with
  | [.inr (.inr (.inl (11, 0))), .inl x1, .inl x2, _, .inl x4], [.inl xs1, .inl xs0] => f σ x1 x2 x4 xs0 xs1
  | _, _ => none
theorem glr_X11_both__28 {ρ : Type} (f : zH → Int32 → Int32 → Int32 → Int32 → Option ρ) (σ : zH) (x1 : Int32) (x2 : Int32) (x3 : Int32) (x4 : Int32)  : gl_X11_both__28 f σ [vR 11 0, vI x1, vI x2, vI x3, vI x4] [] = f σ x1 x2 x3 x4 := rfl
theorem glr_X11_both__73 {ρ : Type} (f : zH → Int32 → Int32 → Int32 → Int32 → Option ρ) (σ : zH) (x1 : Int32) (x2 : Int32) (x4 : Int32) (xs0 : Int32) (y3 : zAV) : gl_X11_both__73 f σ [vR 11 0, vI x1, vI x2, y3, vI x4] [vI xs0] = f σ x1 x2 x4 xs0 := rfl
theorem glr_X11_both__74 {ρ : Type} (f : zH → Int32 → Int32 → Int32 → Int32 → Int32 → Option ρ) (σ : zH) (x1 : Int32) (x2 : Int32) (x4 : Int32) (xs0 : Int32) (xs1 : Int32) (y3 : zAV) : gl_X11_both__74 f σ [vR 11 0, vI x1, vI x2, y3, vI x4] [vI xs1, vI xs0] = f σ x1 x2 x4 xs0 xs1 := rfl
theorem t_X11_both__0 {G : Nat → zH → List zAV → List zAV → Option (zH × Int32)} (es : List zEnt) (σ : zH) (x1 : Int32) (x2 : Int32) (y3 : zAV) (y4 : zAV)  : zev cc_X11_both_ G 0 krI (zE 0 (.aload_n 0) 1 :: zE 1 (.iload_n 1) 1 :: es) σ [vR 11 0, vI x1, vI x2, y3, y4] [] = zev cc_X11_both_ G 0 krI es σ [vR 11 0, vI x1, vI x2, y3, y4] [vI x1, vR 11 0] := rfl
theorem t_X11_both__8 {G : Nat → zH → List zAV → List zAV → Option (zH × Int32)} (es : List zEnt) (σ : zH) (x1 : Int32) (x2 : Int32) (y3 : zAV) (y4 : zAV)  : zev cc_X11_both_ G 0 krI (zE 8 (.aload_n 0) 1 :: zE 9 (.iload_n 2) 1 :: es) σ [vR 11 0, vI x1, vI x2, y3, y4] [] = zev cc_X11_both_ G 0 krI es σ [vR 11 0, vI x1, vI x2, y3, y4] [vI x2, vR 11 0] := rfl
theorem t_X11_both__16 {G : Nat → zH → List zAV → List zAV → Option (zH × Int32)} (es : List zEnt) (σ : zH) (x1 : Int32) (x2 : Int32) (y3 : zAV) (y4 : zAV)  : zev cc_X11_both_ G 0 krI (zE 16 (.iload_n 1) 1 :: zE 17 (.iload_n 2) 1 :: es) σ [vR 11 0, vI x1, vI x2, y3, y4] [] = zev cc_X11_both_ G 0 krI es σ [vR 11 0, vI x1, vI x2, y3, y4] [vI x2, vI x1] := rfl
theorem t_X11_both__21 {G : Nat → zH → List zAV → List zAV → Option (zH × Int32)} (es : List zEnt) (σ : zH)  (y0 : zAV) (y1 : zAV) (y2 : zAV) (y3 : zAV) (y4 : zAV) (w21 : Int32) : zev cc_X11_both_ G 0 krI (zEk 21 (.iconst (-1)) 1 w21 :: es) σ [y0, y1, y2, y3, y4] [] = zev cc_X11_both_ G 0 krI es σ [y0, y1, y2, y3, y4] [vI w21] := rfl
theorem t_X11_both__23 {G : Nat → zH → List zAV → List zAV → Option (zH × Int32)} (es : List zEnt) (σ : zH) (x1 : Int32) (x2 : Int32) (y3 : zAV) (y4 : zAV) (w23 : Int32) (w25 : Int32) : zev cc_X11_both_ G 0 krI (zEk 23 (.iconst 0) 1 w23 :: zE 24 (.istore_n 3) 1 :: zEk 25 (.iconst 0) 1 w25 :: zE 26 (.istore 4) 2 :: es) σ [vR 11 0, vI x1, vI x2, y3, y4] [] = zev cc_X11_both_ G 0 krI es σ [vR 11 0, vI x1, vI x2, vI w23, vI w25] [] := rfl
theorem t_X11_both__28 {G : Nat → zH → List zAV → List zAV → Option (zH × Int32)} (es : List zEnt) (σ : zH) (x1 : Int32) (x2 : Int32) (x3 : Int32) (x4 : Int32)  (w34 : Int32) : zev cc_X11_both_ G 0 krI (zE 28 (.iload 4) 2 :: zE 30 (.aload_n 0) 1 :: zEf 31 (.getfield 7) 3 11 1 149 (2, 42, 0) :: zEk 34 (.bipush 9) 2 w34 :: es) σ [vR 11 0, vI x1, vI x2, vI x3, vI x4] [] = zev cc_X11_both_ G 0 krI es σ [vR 11 0, vI x1, vI x2, vI x3, vI x4] [vI w34, vR 42 0, vI x4] := rfl
theorem t_X11_both__40 {G : Nat → zH → List zAV → List zAV → Option (zH × Int32)} (es : List zEnt) (σ : zH) (x1 : Int32) (x2 : Int32) (x3 : Int32) (x4 : Int32)   : zev cc_X11_both_ G 0 krI (zE 40 (.iload_n 3) 1 :: zE 41 (.aload_n 0) 1 :: zEf 42 (.getfield 82) 3 11 25 173 (2, 66, 0) :: zE 45 (.iload 4) 2 :: es) σ [vR 11 0, vI x1, vI x2, vI x3, vI x4] [] = zev cc_X11_both_ G 0 krI es σ [vR 11 0, vI x1, vI x2, vI x3, vI x4] [vI x4, vR 66 0, vI x3] := rfl
theorem t_X11_both__48 {G : Nat → zH → List zAV → List zAV → Option (zH × Int32)} (es : List zEnt) (σ : zH) (x1 : Int32) (x2 : Int32) (x4 : Int32) (xs0 : Int32) (xs1 : Int32) (y3 : zAV)  : zev cc_X11_both_ G 0 krI (zE 48 (.iload_n 1) 1 :: es) σ [vR 11 0, vI x1, vI x2, y3, vI x4] [vI xs1, vI xs0] = zev cc_X11_both_ G 0 krI es σ [vR 11 0, vI x1, vI x2, y3, vI x4] [vI x1, vI xs1, vI xs0] := rfl
theorem t_X11_both__55 {G : Nat → zH → List zAV → List zAV → Option (zH × Int32)} (es : List zEnt) (σ : zH) (x1 : Int32) (x2 : Int32) (x4 : Int32) (xs0 : Int32) (y3 : zAV)  : zev cc_X11_both_ G 0 krI (zE 55 (.aload_n 0) 1 :: zEf 56 (.getfield 82) 3 11 25 173 (2, 66, 0) :: zE 59 (.iload 4) 2 :: es) σ [vR 11 0, vI x1, vI x2, y3, vI x4] [vI xs0] = zev cc_X11_both_ G 0 krI es σ [vR 11 0, vI x1, vI x2, y3, vI x4] [vI x4, vR 66 0, vI xs0] := rfl
theorem t_X11_both__62 {G : Nat → zH → List zAV → List zAV → Option (zH × Int32)} (es : List zEnt) (σ : zH) (x1 : Int32) (x2 : Int32) (x4 : Int32) (xs0 : Int32) (xs1 : Int32) (y3 : zAV)  : zev cc_X11_both_ G 0 krI (zE 62 (.iload_n 2) 1 :: es) σ [vR 11 0, vI x1, vI x2, y3, vI x4] [vI xs1, vI xs0] = zev cc_X11_both_ G 0 krI es σ [vR 11 0, vI x1, vI x2, y3, vI x4] [vI x2, vI xs1, vI xs0] := rfl
theorem t_X11_both__69 {G : Nat → zH → List zAV → List zAV → Option (zH × Int32)} (es : List zEnt) (σ : zH) (x1 : Int32) (x2 : Int32) (x4 : Int32) (xs0 : Int32) (y3 : zAV) (w69 : Int32) : zev cc_X11_both_ G 0 krI (zEk 69 (.iconst 1) 1 w69 :: es) σ [vR 11 0, vI x1, vI x2, y3, vI x4] [vI xs0] = zev cc_X11_both_ G 0 krI es σ [vR 11 0, vI x1, vI x2, y3, vI x4] [vI w69, vI xs0] := rfl
theorem t_X11_both__73 {G : Nat → zH → List zAV → List zAV → Option (zH × Int32)} (es : List zEnt) (σ : zH) (x1 : Int32) (x2 : Int32) (x4 : Int32) (xs0 : Int32) (y3 : zAV) (w73 : Int32) : zev cc_X11_both_ G 0 krI (zEk 73 (.iconst 0) 1 w73 :: es) σ [vR 11 0, vI x1, vI x2, y3, vI x4] [vI xs0] = zev cc_X11_both_ G 0 krI es σ [vR 11 0, vI x1, vI x2, y3, vI x4] [vI w73, vI xs0] := rfl
theorem t_X11_both__74 {G : Nat → zH → List zAV → List zAV → Option (zH × Int32)} (es : List zEnt) (σ : zH) (x1 : Int32) (x2 : Int32) (x4 : Int32) (xs0 : Int32) (xs1 : Int32) (y3 : zAV) (w76 : Int32) : zev cc_X11_both_ G 0 krI (zE 74 .iadd 1 :: zE 75 (.istore_n 3) 1 :: zEk 76 (.iinc 4 1) 3 w76 :: es) σ [vR 11 0, vI x1, vI x2, y3, vI x4] [vI xs1, vI xs0] = zev cc_X11_both_ G 0 krI es σ [vR 11 0, vI x1, vI x2, vI (xs0 + xs1), vI (x4 + w76)] [] := rfl
theorem t_X11_both__82 {G : Nat → zH → List zAV → List zAV → Option (zH × Int32)} (es : List zEnt) (σ : zH) (x3 : Int32) (y0 : zAV) (y1 : zAV) (y2 : zAV) (y4 : zAV)  : zev cc_X11_both_ G 0 krI (zE 82 (.iload_n 3) 1 :: es) σ [y0, y1, y2, vI x3, y4] [] = zev cc_X11_both_ G 0 krI es σ [y0, y1, y2, vI x3, y4] [vI x3] := rfl
noncomputable def j_X11_both__74 (c28 : zH → Int32 → Int32 → Int32 → Int32 → Option (zH × Int32)) (σ : zH) (x1 : Int32) (x2 : Int32) (x4 : Int32) (xs0 : Int32) (xs1 : Int32) : Option (zH × Int32) :=
  c28 σ x1 x2 (xs0 + xs1) (x4 + (1 : Int32))
theorem e_X11_both__74 (c28 : zH → Int32 → Int32 → Int32 → Int32 → Option (zH × Int32)) (σ : zH) (x1 : Int32) (x2 : Int32) (x4 : Int32) (xs0 : Int32) (xs1 : Int32) (y3 : zAV) : j_X11_both__74 c28 σ x1 x2 x4 xs0 xs1 = zin cc_X11_both_ (fun t => if t = 28 then some (gl_X11_both__28 c28) else none) 0 krI b_X11_both_ 74 σ [vR 11 0, vI x1, vI x2, y3, vI x4] [vI xs1, vI xs0] := by
  unfold j_X11_both__74
  refine Eq.symm ((zin_b (es := q_X11_both__74) rfl).trans ?_)
  refine (t_X11_both__74 _ _ _ _ _ _ _ _ _).trans ?_
  refine x_goto.trans ?_
  exact (zrun_c rfl).trans (glr_X11_both__28 _ _ _ _ _ _)
theorem s_X11_both__74 {X : zX} (hX : zHX X) {c28 : zH → Int32 → Int32 → Int32 → Int32 → Option (zH × Int32)} (h28 : ∀ σ L st r, gl_X11_both__28 c28 σ L st = some r → zGW X 204 krI 28 σ L st r) : ∀ σ L st r, gl_X11_both__74 (j_X11_both__74 c28) σ L st = some r → zGW X 204 krI 74 σ L st r := by
  intro σ L st r h
  unfold gl_X11_both__74 at h
  split at h
  · exact zin_ok (hy_X11_both_ hX) bk_X11_both_ (fun t f hf => by
    by_cases e28 : t = 28
    · rw [if_pos e28] at hf; subst e28; cases hf; exact h28
    rw [if_neg e28] at hf
    cases hf) ((e_X11_both__74 _ _ _ _ _ _ _ _).symm.trans h)
  · cases h
noncomputable def j_X11_both__73 (c28 : zH → Int32 → Int32 → Int32 → Int32 → Option (zH × Int32)) (σ : zH) (x1 : Int32) (x2 : Int32) (x4 : Int32) (xs0 : Int32) : Option (zH × Int32) :=
  (j_X11_both__74 c28) σ x1 x2 x4 xs0 (0 : Int32)
theorem e_X11_both__73 (c28 : zH → Int32 → Int32 → Int32 → Int32 → Option (zH × Int32)) (σ : zH) (x1 : Int32) (x2 : Int32) (x4 : Int32) (xs0 : Int32) (y3 : zAV) : j_X11_both__73 c28 σ x1 x2 x4 xs0 = zin cc_X11_both_ (fun t => if t = 74 then some (gl_X11_both__74 (j_X11_both__74 c28)) else none) 0 krI b_X11_both_ 73 σ [vR 11 0, vI x1, vI x2, y3, vI x4] [vI xs0] := by
  unfold j_X11_both__73
  refine Eq.symm ((zin_b (es := q_X11_both__73) rfl).trans ?_)
  refine (t_X11_both__73 _ _ _ _ _ _ _ _).trans ?_
  refine x_cut.trans ?_
  exact (zrun_c rfl).trans (glr_X11_both__74 _ _ _ _ _ _ _ _)
theorem s_X11_both__73 {X : zX} (hX : zHX X) {c28 : zH → Int32 → Int32 → Int32 → Int32 → Option (zH × Int32)} (h28 : ∀ σ L st r, gl_X11_both__28 c28 σ L st = some r → zGW X 204 krI 28 σ L st r) : ∀ σ L st r, gl_X11_both__73 (j_X11_both__73 c28) σ L st = some r → zGW X 204 krI 73 σ L st r := by
  intro σ L st r h
  unfold gl_X11_both__73 at h
  split at h
  · exact zin_ok (hy_X11_both_ hX) bk_X11_both_ (fun t f hf => by
    by_cases e74 : t = 74
    · rw [if_pos e74] at hf; subst e74; cases hf; exact (s_X11_both__74 hX h28)
    rw [if_neg e74] at hf
    cases hf) ((e_X11_both__73 _ _ _ _ _ _ _).symm.trans h)
  · cases h
noncomputable def k_X11_both__28  : Nat → zH → Int32 → Int32 → Int32 → Int32 → Option (zH × Int32)
  | 0, _, _, _, _, _ => none
  | n + 1, σ, x1, x2, x3, x4 =>
    if x4 < (σ.1 42 0 9) then
      ix x4 192 fun j1 =>
      (d_X11_has σ (σ.1 66 0 j1) x1).bind fun p2 =>
      if p2.2 = 0 then
        (j_X11_both__73 (k_X11_both__28 n)) p2.1 x1 x2 x4 x3
      else
        ix x4 192 fun j3 =>
        (d_X11_has p2.1 (p2.1.1 66 0 j3) x2).bind fun p4 =>
        if p4.2 = 0 then
          (j_X11_both__73 (k_X11_both__28 n)) p4.1 x1 x2 x4 x3
        else
          (j_X11_both__74 (k_X11_both__28 n)) p4.1 x1 x2 x4 x3 (1 : Int32)
    else
      some (σ, x3)
theorem e_X11_both__28  (n : Nat) (σ : zH) (x1 : Int32) (x2 : Int32) (x3 : Int32) (x4 : Int32)  : k_X11_both__28 (n + 1) σ x1 x2 x3 x4 = zin cc_X11_both_ (fun t => if t = 73 then some (gl_X11_both__73 (j_X11_both__73 (k_X11_both__28 n))) else if t = 74 then some (gl_X11_both__74 (j_X11_both__74 (k_X11_both__28 n))) else none) 0 krI b_X11_both_ 28 σ [vR 11 0, vI x1, vI x2, vI x3, vI x4] [] := by
  rw [k_X11_both__28]
  refine Eq.symm ((zin_b (es := q_X11_both__28) rfl).trans ?_)
  refine (t_X11_both__28 _ _ _ _ _ _ _).trans ?_
  refine ((x_iald (N := 11) rfl rfl).trans (ix_l 9 (by decide +kernel))).trans ?_
  refine x_icmp.trans (pif_ge ?_ ?_)
  · refine (zrun_b (es := q_X11_both__82) rfl rfl).trans ?_
    refine (t_X11_both__82 _ _ _ _ _ _ _).trans ?_
    exact x_iret
  · refine (t_X11_both__40 _ _ _ _ _ _).trans ?_
    refine (x_iald (N := 192) rfl rfl).trans (pix fun _ => ?_)
    refine (t_X11_both__48 _ _ _ _ _ _ _ _).trans ?_
    refine (x_callS rfl rfl rfl rfl).trans ((cl_X11_both__X11_has _ _ _).trans ((gr_X11_has _ _ _ _).trans (pbd fun _ => ?_)))
    refine x_if.trans (pif_eq ?_ ?_)
    · exact (zrun_c rfl).trans (glr_X11_both__73 _ _ _ _ _ _ _)
    · refine (t_X11_both__55 _ _ _ _ _ _ _).trans ?_
      refine (x_iald (N := 192) rfl rfl).trans (pix fun _ => ?_)
      refine (t_X11_both__62 _ _ _ _ _ _ _ _).trans ?_
      refine (x_callS rfl rfl rfl rfl).trans ((cl_X11_both__X11_has _ _ _).trans ((gr_X11_has _ _ _ _).trans (pbd fun _ => ?_)))
      refine x_if.trans (pif_eq ?_ ?_)
      · exact (zrun_c rfl).trans (glr_X11_both__73 _ _ _ _ _ _ _)
      · refine (t_X11_both__69 _ _ _ _ _ _ _ _).trans ?_
        refine x_goto.trans ?_
        exact (zrun_c rfl).trans (glr_X11_both__74 _ _ _ _ _ _ _ _)
theorem s_X11_both__28 {X : zX} (hX : zHX X)   : ∀ n σ L st r, gl_X11_both__28 (k_X11_both__28 n) σ L st = some r → zGW X 204 krI 28 σ L st r := by
  intro n
  induction n with
  | zero =>
    intro σ L st r h
    unfold gl_X11_both__28 at h
    split at h <;> cases h
  | succ n ih =>
    intro σ L st r h
    unfold gl_X11_both__28 at h
    split at h
    · exact zin_ok (hy_X11_both_ hX) bk_X11_both_ (fun t f hf => by
      by_cases e73 : t = 73
      · rw [if_pos e73] at hf; subst e73; cases hf; exact (s_X11_both__73 hX ih)
      rw [if_neg e73] at hf
      by_cases e74 : t = 74
      · rw [if_pos e74] at hf; subst e74; cases hf; exact (s_X11_both__74 hX ih)
      rw [if_neg e74] at hf
      cases hf) ((e_X11_both__28 _ _ _ _ _ _).symm.trans h)
    · cases h
noncomputable def d_X11_both_ (σ : zH) (xa1 : Int32) (xa2 : Int32) : Option (zH × Int32) :=
  (d_X11_isCompany σ xa1).bind fun p1 =>
  if p1.2 = 0 then
    some (p1.1, (-1 : Int32))
  else
    (d_X11_isCompany p1.1 xa2).bind fun p2 =>
    if p2.2 = 0 then
      some (p2.1, (-1 : Int32))
    else
      if xa1 = xa2 then
        some (p2.1, (-1 : Int32))
      else
        (k_X11_both__28 zN) p2.1 xa1 xa2 (0 : Int32) (0 : Int32)
theorem e_X11_both_ (σ : zH) (xa1 : Int32) (xa2 : Int32) : d_X11_both_ σ xa1 xa2 = zin cc_X11_both_ (fun t => if t = 28 then some (gl_X11_both__28 (k_X11_both__28 zN)) else none) 0 krI b_X11_both_ 0 σ [vR 11 0, vI xa1, vI xa2, vU, vU] [] := by
  unfold d_X11_both_
  refine Eq.symm ((zin_b (es := q_X11_both__0) rfl).trans ?_)
  refine (t_X11_both__0 _ _ _ _ _ _).trans ?_
  refine (x_callV rfl rfl rfl rfl).trans ((cl_X11_both__X11_isCompany _ _ _).trans ((gr_X11_isCompany _ _ _).trans (pbd fun _ => ?_)))
  refine x_if.trans (pif_eq ?_ ?_)
  · refine (zrun_b (es := q_X11_both__21) rfl rfl).trans ?_
    refine (t_X11_both__21 _ _ _ _ _ _ _ _).trans ?_
    exact x_iret
  · refine (t_X11_both__8 _ _ _ _ _ _).trans ?_
    refine (x_callV rfl rfl rfl rfl).trans ((cl_X11_both__X11_isCompany _ _ _).trans ((gr_X11_isCompany _ _ _).trans (pbd fun _ => ?_)))
    refine x_if.trans (pif_eq ?_ ?_)
    · refine (zrun_b (es := q_X11_both__21) rfl rfl).trans ?_
      refine (t_X11_both__21 _ _ _ _ _ _ _ _).trans ?_
      exact x_iret
    · refine (t_X11_both__16 _ _ _ _ _ _).trans ?_
      refine x_icmp.trans (pif_ne ?_ ?_)
      · refine (zrun_b (es := q_X11_both__23) rfl rfl).trans ?_
        refine (t_X11_both__23 _ _ _ _ _ _ _ _).trans ?_
        refine x_cut.trans ?_
        exact (zrun_c rfl).trans (glr_X11_both__28 _ _ _ _ _ _)
      · refine (t_X11_both__21 _ _ _ _ _ _ _ _).trans ?_
        exact x_iret
noncomputable def g_X11_both_ {ρ : Type} (σ : zH) (av : List zAV) (q : zH → zAV → Option ρ) : Option ρ := match av with
  | [.inr (.inr (.inl (11, 0))), .inl xa1, .inl xa2] => (d_X11_both_ σ xa1 xa2).bind fun p => q p.1 (vI p.2)
  | _ => none
theorem gr_X11_both_ {ρ : Type} (σ : zH) (xa1 : Int32) (xa2 : Int32) (q : zH → zAV → Option ρ) : g_X11_both_ σ [vR 11 0, vI xa1, vI xa2] q = (d_X11_both_ σ xa1 xa2).bind fun p => q p.1 (vI p.2) := rfl
theorem c_X11_both_ {ρ : Type} {X : zX} (hX : zHX X) {σ : zH} {av : List zAV} {q : zH → zAV → Option ρ} {r : ρ} (h : g_X11_both_ σ av q = some r) (hv : ∀ a ∈ av, zval X a) : zcon X 204 σ av q r := by
  unfold g_X11_both_ at h
  split at h
  · exact zcon_I (n := 204) (ml := 5) (rc := 0) (st := 0) (kd := 11) (np := 2) (by decide +kernel) (by decide) ⟨_, _, rfl, rfl⟩ (Nat.le_of_ble_eq_true rfl) hv h (fun y h1 => (zin_ok (hy_X11_both_ hX) bk_X11_both_ (fun t f hf => by
      by_cases e28 : t = 28
      · rw [if_pos e28] at hf; subst e28; cases hf; exact ((fun σ L st r h => s_X11_both__28 hX  zN σ L st r h))
      rw [if_neg e28] at hf
      cases hf) ((e_X11_both_ _ _ _).symm.trans h1)))
  · cases h
