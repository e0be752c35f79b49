/-! SleepWaves.bestLaw(I)I -/
def q_X10_bestLaw_12 : List zEnt := zE 12 .ireturn 1 :: []
def q_X10_bestLaw_11 : List zEnt := zEk 11 (.iconst (-1)) 1 (-1) :: q_X10_bestLaw_12
def q_X10_bestLaw_8 : List zEnt := zEa 8 (.if_icmp .le 5) 3 13 :: q_X10_bestLaw_11
def q_X10_bestLaw_4 : List zEnt := zE 4 (.iload_n 1) 1 :: zEk 5 (.sipush 192) 3 192 :: q_X10_bestLaw_8
def q_X10_bestLaw_1 : List zEnt := zEa 1 (.ifCond .lt 10) 3 11 :: q_X10_bestLaw_4
def q_X10_bestLaw_0 : List zEnt := zE 0 (.iload_n 1) 1 :: q_X10_bestLaw_1
def q_X10_bestLaw_13 : List zEnt := zEk 13 (.bipush (-2)) 2 (-2) :: zE 15 (.istore_n 2) 1 :: zEk 16 (.iconst 0) 1 0 :: zE 17 (.istore_n 3) 1 :: zEk 18 (.iconst 0) 1 0 :: zE 19 (.istore 4) 2 :: zEk 21 (.iconst 0) 1 0 :: zE 22 (.istore 5) 2 :: [zE 24 .nop 0]
def q_X10_bestLaw_90 : List zEnt := zEa 90 (.if_icmp .ge 13) 3 103 :: [zE 93 .nop 0]
def q_X10_bestLaw_86 : List zEnt := zE 86 (.iload 7) 2 :: zE 88 (.iload 4) 2 :: q_X10_bestLaw_90
def q_X10_bestLaw_83 : List zEnt := zEa 83 (.if_icmp .ne 20) 3 103 :: q_X10_bestLaw_86
def q_X10_bestLaw_80 : List zEnt := zE 80 (.iload 6) 2 :: zE 82 (.iload_n 3) 1 :: q_X10_bestLaw_83
def q_X10_bestLaw_77 : List zEnt := zEa 77 (.if_icmp .lt 16) 3 93 :: q_X10_bestLaw_80
def q_X10_bestLaw_74 : List zEnt := zE 74 (.iload 6) 2 :: zE 76 (.iload_n 3) 1 :: q_X10_bestLaw_77
def q_X10_bestLaw_71 : List zEnt := zEa 71 (.if_icmp .eq 22) 3 93 :: q_X10_bestLaw_74
def q_X10_bestLaw_66 : List zEnt := zE 66 (.istore 7) 2 :: zE 68 (.iload_n 2) 1 :: zEk 69 (.bipush (-2)) 2 (-2) :: q_X10_bestLaw_71
def q_X10_bestLaw_63 : List zEnt := zEc 63 (.invokevirtual 248) 3 19 2 93 0 :: q_X10_bestLaw_66
def q_X10_bestLaw_56 : List zEnt := zE 56 (.istore 6) 2 :: zE 58 (.aload_n 0) 1 :: zEf 59 (.getfield 82) 3 10 11 147 (2, 2, 0) :: zEk 62 (.iconst 3) 1 3 :: q_X10_bestLaw_63
def q_X10_bestLaw_53 : List zEnt := zEc 53 (.invokevirtual 248) 3 19 2 93 0 :: q_X10_bestLaw_56
def q_X10_bestLaw_48 : List zEnt := zE 48 (.aload_n 0) 1 :: zEf 49 (.getfield 82) 3 10 11 147 (2, 2, 0) :: zEk 52 (.iconst 1) 1 1 :: q_X10_bestLaw_53
def q_X10_bestLaw_45 : List zEnt := zEc 45 (.invokevirtual 245) 3 17 3 88 1 :: q_X10_bestLaw_48
def q_X10_bestLaw_44 : List zEnt := zE 44 (.iload_n 1) 1 :: q_X10_bestLaw_45
def q_X10_bestLaw_43 : List zEnt := zE 43 .aaload 1 :: q_X10_bestLaw_44
def q_X10_bestLaw_33 : List zEnt := zE 33 (.aload_n 0) 1 :: zEf 34 (.getfield 82) 3 10 11 147 (2, 2, 0) :: zE 37 (.aload_n 0) 1 :: zEf 38 (.getfield 46) 3 10 4 140 (2, 38, 0) :: zE 41 (.iload 5) 2 :: q_X10_bestLaw_43
def q_X10_bestLaw_30 : List zEnt := zEa 30 (.if_icmp .ge 79) 3 109 :: q_X10_bestLaw_33
def q_X10_bestLaw_24 : List zEnt := zE 24 (.iload 5) 2 :: zE 26 (.aload_n 0) 1 :: zEf 27 (.getfield 115) 3 10 5 141 (0, 0, 0) :: q_X10_bestLaw_30
def q_X10_bestLaw_106 : List zEnt := zEa 106 (.goto (-82)) 3 24 :: []
def q_X10_bestLaw_103 : List zEnt := zEk 103 (.iinc 5 1) 3 1 :: q_X10_bestLaw_106
def q_X10_bestLaw_93 : List zEnt := zE 93 (.iload 5) 2 :: zE 95 (.istore_n 2) 1 :: zE 96 (.iload 6) 2 :: zE 98 (.istore_n 3) 1 :: zE 99 (.iload 7) 2 :: zE 101 (.istore 4) 2 :: q_X10_bestLaw_103
def q_X10_bestLaw_110 : List zEnt := zE 110 .ireturn 1 :: []
def q_X10_bestLaw_109 : List zEnt := zE 109 (.iload_n 2) 1 :: q_X10_bestLaw_110
def b_X10_bestLaw : List (Nat × List zEnt) := [(0, q_X10_bestLaw_0), (11, q_X10_bestLaw_11), (13, q_X10_bestLaw_13), (24, q_X10_bestLaw_24), (93, q_X10_bestLaw_93), (103, q_X10_bestLaw_103), (109, q_X10_bestLaw_109)]
theorem bk_X10_bestLaw : zchB 119 b_X10_bestLaw = true := by decide +kernel
noncomputable def cc_X10_bestLaw {ρ : Type} : Nat → zH → List zAV → (zH → zAV → Option ρ) → Option ρ := fun n σ av q => if n = 17 then g_X2_play σ av q else if n = 19 then g_X2_outcome σ av q else none
theorem cs_X10_bestLaw {ρ : Type} {X : zX} (hX : zHX X) : zCS X (cc_X10_bestLaw (ρ := ρ)) := by
  intro n σ av q r h hv
  unfold cc_X10_bestLaw at h
  by_cases e_X2_play : n = 17
  · rw [if_pos e_X2_play] at h
    subst e_X2_play
    exact c_X2_play hX h hv
  rw [if_neg e_X2_play] at h
  by_cases e_X2_outcome : n = 19
  · rw [if_pos e_X2_outcome] at h
    subst e_X2_outcome
    exact c_X2_outcome hX h hv
  rw [if_neg e_X2_outcome] at h
  cases h
theorem cl_X10_bestLaw_X2_play {ρ : Type} (σ : zH) (av : List zAV) (q : zH → zAV → Option ρ) : cc_X10_bestLaw 17 σ av q = g_X2_play σ av q := rfl
theorem cl_X10_bestLaw_X2_outcome {ρ : Type} (σ : zH) (av : List zAV) (q : zH → zAV → Option ρ) : cc_X10_bestLaw 19 σ av q = g_X2_outcome σ av q := rfl
theorem hy_X10_bestLaw {ρ : Type} {X : zX} (hX : zHX X) : zHY X 119 (cc_X10_bestLaw (ρ := ρ)) := zHX.hY hX (cs_X10_bestLaw hX) (zmok_all 119 (by decide))
def gl_X10_bestLaw_24 {ρ : Type} (f : zH → Int32 → Int32 → Int32 → Int32 → Int32 → Option ρ) (σ : zH) (L st : List zAV) : Option ρ := match L, st with
  | [.inr (.inr (.inl (10, 0))), .inl x1, .inl x2, .inl x3, .inl x4, .inl x5, _, _], [] => f σ x1 x2 x3 x4 x5
  | _, _ => none
def gl_X10_bestLaw_93 {ρ : Type} (f : zH → Int32 → Int32 → Int32 → Int32 → Option ρ) (σ : zH) (L st : List zAV) : Option ρ := match L, st with
  | [.inr (.inr (.inl (10, 0))), .inl x1, _, _, _, .inl x5, .inl x6, .inl x7], [] => f σ x1 x5 x6 x7
  | _, _ => none
theorem glr_X10_bestLaw_24 {ρ : Type} (f : zH → Int32 → Int32 → Int32 → Int32 → Int32 → Option ρ) (σ : zH) (x1 : Int32) (x2 : Int32) (x3 : Int32) (x4 : Int32) (x5 : Int32) (y6 : zAV) (y7 : zAV) : gl_X10_bestLaw_24 f σ [vR 10 0, vI x1, vI x2, vI x3, vI x4, vI x5, y6, y7] [] = f σ x1 x2 x3 x4 x5 := rfl
theorem glr_X10_bestLaw_93 {ρ : Type} (f : zH → Int32 → Int32 → Int32 → Int32 → Option ρ) (σ : zH) (x1 : Int32) (x5 : Int32) (x6 : Int32) (x7 : Int32) (y2 : zAV) (y3 : zAV) (y4 : zAV) : gl_X10_bestLaw_93 f σ [vR 10 0, vI x1, y2, y3, y4, vI x5, vI x6, vI x7] [] = f σ x1 x5 x6 x7 := rfl
theorem t_X10_bestLaw_0 {G : Nat → zH → List zAV → List zAV → Option (zH × Int32)} (es : List zEnt) (σ : zH) (x1 : Int32) (y2 : zAV) (y3 : zAV) (y4 : zAV) (y5 : zAV) (y6 : zAV) (y7 : zAV)  : zev cc_X10_bestLaw G 0 krI (zE 0 (.iload_n 1) 1 :: es) σ [vR 10 0, vI x1, y2, y3, y4, y5, y6, y7] [] = zev cc_X10_bestLaw G 0 krI es σ [vR 10 0, vI x1, y2, y3, y4, y5, y6, y7] [vI x1] := rfl
theorem t_X10_bestLaw_4 {G : Nat → zH → List zAV → List zAV → Option (zH × Int32)} (es : List zEnt) (σ : zH) (x1 : Int32) (y2 : zAV) (y3 : zAV) (y4 : zAV) (y5 : zAV) (y6 : zAV) (y7 : zAV) (w5 : Int32) : zev cc_X10_bestLaw G 0 krI (zE 4 (.iload_n 1) 1 :: zEk 5 (.sipush 192) 3 w5 :: es) σ [vR 10 0, vI x1, y2, y3, y4, y5, y6, y7] [] = zev cc_X10_bestLaw G 0 krI es σ [vR 10 0, vI x1, y2, y3, y4, y5, y6, y7] [vI w5, vI x1] := rfl
theorem t_X10_bestLaw_11 {G : Nat → zH → List zAV → List zAV → Option (zH × Int32)} (es : List zEnt) (σ : zH)  (y0 : zAV) (y1 : zAV) (y2 : zAV) (y3 : zAV) (y4 : zAV) (y5 : zAV) (y6 : zAV) (y7 : zAV) (w11 : Int32) : zev cc_X10_bestLaw G 0 krI (zEk 11 (.iconst (-1)) 1 w11 :: es) σ [y0, y1, y2, y3, y4, y5, y6, y7] [] = zev cc_X10_bestLaw G 0 krI es σ [y0, y1, y2, y3, y4, y5, y6, y7] [vI w11] := rfl
theorem t_X10_bestLaw_13 {G : Nat → zH → List zAV → List zAV → Option (zH × Int32)} (es : List zEnt) (σ : zH) (x1 : Int32) (y2 : zAV) (y3 : zAV) (y4 : zAV) (y5 : zAV) (y6 : zAV) (y7 : zAV) (w13 : Int32) (w16 : Int32) (w18 : Int32) (w21 : Int32) : zev cc_X10_bestLaw G 0 krI (zEk 13 (.bipush (-2)) 2 w13 :: zE 15 (.istore_n 2) 1 :: zEk 16 (.iconst 0) 1 w16 :: zE 17 (.istore_n 3) 1 :: zEk 18 (.iconst 0) 1 w18 :: zE 19 (.istore 4) 2 :: zEk 21 (.iconst 0) 1 w21 :: zE 22 (.istore 5) 2 :: es) σ [vR 10 0, vI x1, y2, y3, y4, y5, y6, y7] [] = zev cc_X10_bestLaw G 0 krI es σ [vR 10 0, vI x1, vI w13, vI w16, vI w18, vI w21, y6, y7] [] := rfl
theorem t_X10_bestLaw_24 {G : Nat → zH → List zAV → List zAV → Option (zH × Int32)} (es : List zEnt) (σ : zH) (x1 : Int32) (x2 : Int32) (x3 : Int32) (x4 : Int32) (x5 : Int32) (y6 : zAV) (y7 : zAV)  : zev cc_X10_bestLaw G 0 krI (zE 24 (.iload 5) 2 :: zE 26 (.aload_n 0) 1 :: zEf 27 (.getfield 115) 3 10 5 141 (0, 0, 0) :: es) σ [vR 10 0, vI x1, vI x2, vI x3, vI x4, vI x5, y6, y7] [] = zev cc_X10_bestLaw G 0 krI es σ [vR 10 0, vI x1, vI x2, vI x3, vI x4, vI x5, y6, y7] [vI (σ.1 10 0 5), vI x5] := rfl
theorem t_X10_bestLaw_33 {G : Nat → zH → List zAV → List zAV → Option (zH × Int32)} (es : List zEnt) (σ : zH) (x1 : Int32) (x2 : Int32) (x3 : Int32) (x4 : Int32) (x5 : Int32) (y6 : zAV) (y7 : zAV)  : zev cc_X10_bestLaw G 0 krI (zE 33 (.aload_n 0) 1 :: zEf 34 (.getfield 82) 3 10 11 147 (2, 2, 0) :: zE 37 (.aload_n 0) 1 :: zEf 38 (.getfield 46) 3 10 4 140 (2, 38, 0) :: zE 41 (.iload 5) 2 :: es) σ [vR 10 0, vI x1, vI x2, vI x3, vI x4, vI x5, y6, y7] [] = zev cc_X10_bestLaw G 0 krI es σ [vR 10 0, vI x1, vI x2, vI x3, vI x4, vI x5, y6, y7] [vI x5, vR 38 0, vR 2 0] := rfl
theorem t_X10_bestLaw_44 {G : Nat → zH → List zAV → List zAV → Option (zH × Int32)} (es : List zEnt) (σ : zH) (x1 : Int32) (x2 : Int32) (x3 : Int32) (x4 : Int32) (x5 : Int32) (is1 : Nat) (y6 : zAV) (y7 : zAV)  : zev cc_X10_bestLaw G 0 krI (zE 44 (.iload_n 1) 1 :: es) σ [vR 10 0, vI x1, vI x2, vI x3, vI x4, vI x5, y6, y7] [vR 4 is1, vR 2 0] = zev cc_X10_bestLaw G 0 krI es σ [vR 10 0, vI x1, vI x2, vI x3, vI x4, vI x5, y6, y7] [vI x1, vR 4 is1, vR 2 0] := rfl
theorem t_X10_bestLaw_48 {G : Nat → zH → List zAV → List zAV → Option (zH × Int32)} (es : List zEnt) (σ : zH) (x1 : Int32) (x2 : Int32) (x3 : Int32) (x4 : Int32) (x5 : Int32) (y6 : zAV) (y7 : zAV) (w52 : Int32) : zev cc_X10_bestLaw G 0 krI (zE 48 (.aload_n 0) 1 :: zEf 49 (.getfield 82) 3 10 11 147 (2, 2, 0) :: zEk 52 (.iconst 1) 1 w52 :: es) σ [vR 10 0, vI x1, vI x2, vI x3, vI x4, vI x5, y6, y7] [] = zev cc_X10_bestLaw G 0 krI es σ [vR 10 0, vI x1, vI x2, vI x3, vI x4, vI x5, y6, y7] [vI w52, vR 2 0] := rfl
theorem t_X10_bestLaw_56 {G : Nat → zH → List zAV → List zAV → Option (zH × Int32)} (es : List zEnt) (σ : zH) (x1 : Int32) (x2 : Int32) (x3 : Int32) (x4 : Int32) (x5 : Int32) (xs0 : Int32) (y6 : zAV) (y7 : zAV) (w62 : Int32) : zev cc_X10_bestLaw G 0 krI (zE 56 (.istore 6) 2 :: zE 58 (.aload_n 0) 1 :: zEf 59 (.getfield 82) 3 10 11 147 (2, 2, 0) :: zEk 62 (.iconst 3) 1 w62 :: es) σ [vR 10 0, vI x1, vI x2, vI x3, vI x4, vI x5, y6, y7] [vI xs0] = zev cc_X10_bestLaw G 0 krI es σ [vR 10 0, vI x1, vI x2, vI x3, vI x4, vI x5, vI xs0, y7] [vI w62, vR 2 0] := rfl
theorem t_X10_bestLaw_66 {G : Nat → zH → List zAV → List zAV → Option (zH × Int32)} (es : List zEnt) (σ : zH) (x1 : Int32) (x2 : Int32) (x3 : Int32) (x4 : Int32) (x5 : Int32) (x6 : Int32) (xs0 : Int32) (y7 : zAV) (w69 : Int32) : zev cc_X10_bestLaw G 0 krI (zE 66 (.istore 7) 2 :: zE 68 (.iload_n 2) 1 :: zEk 69 (.bipush (-2)) 2 w69 :: es) σ [vR 10 0, vI x1, vI x2, vI x3, vI x4, vI x5, vI x6, y7] [vI xs0] = zev cc_X10_bestLaw G 0 krI es σ [vR 10 0, vI x1, vI x2, vI x3, vI x4, vI x5, vI x6, vI xs0] [vI w69, vI x2] := rfl
theorem t_X10_bestLaw_74 {G : Nat → zH → List zAV → List zAV → Option (zH × Int32)} (es : List zEnt) (σ : zH) (x1 : Int32) (x2 : Int32) (x3 : Int32) (x4 : Int32) (x5 : Int32) (x6 : Int32) (x7 : Int32)   : zev cc_X10_bestLaw G 0 krI (zE 74 (.iload 6) 2 :: zE 76 (.iload_n 3) 1 :: es) σ [vR 10 0, vI x1, vI x2, vI x3, vI x4, vI x5, vI x6, vI x7] [] = zev cc_X10_bestLaw G 0 krI es σ [vR 10 0, vI x1, vI x2, vI x3, vI x4, vI x5, vI x6, vI x7] [vI x3, vI x6] := rfl
theorem t_X10_bestLaw_80 {G : Nat → zH → List zAV → List zAV → Option (zH × Int32)} (es : List zEnt) (σ : zH) (x1 : Int32) (x2 : Int32) (x3 : Int32) (x4 : Int32) (x5 : Int32) (x6 : Int32) (x7 : Int32)   : zev cc_X10_bestLaw G 0 krI (zE 80 (.iload 6) 2 :: zE 82 (.iload_n 3) 1 :: es) σ [vR 10 0, vI x1, vI x2, vI x3, vI x4, vI x5, vI x6, vI x7] [] = zev cc_X10_bestLaw G 0 krI es σ [vR 10 0, vI x1, vI x2, vI x3, vI x4, vI x5, vI x6, vI x7] [vI x3, vI x6] := rfl
theorem t_X10_bestLaw_86 {G : Nat → zH → List zAV → List zAV → Option (zH × Int32)} (es : List zEnt) (σ : zH) (x1 : Int32) (x2 : Int32) (x3 : Int32) (x4 : Int32) (x5 : Int32) (x6 : Int32) (x7 : Int32)   : zev cc_X10_bestLaw G 0 krI (zE 86 (.iload 7) 2 :: zE 88 (.iload 4) 2 :: es) σ [vR 10 0, vI x1, vI x2, vI x3, vI x4, vI x5, vI x6, vI x7] [] = zev cc_X10_bestLaw G 0 krI es σ [vR 10 0, vI x1, vI x2, vI x3, vI x4, vI x5, vI x6, vI x7] [vI x4, vI x7] := rfl
theorem t_X10_bestLaw_93 {G : Nat → zH → List zAV → List zAV → Option (zH × Int32)} (es : List zEnt) (σ : zH) (x1 : Int32) (x5 : Int32) (x6 : Int32) (x7 : Int32) (y2 : zAV) (y3 : zAV) (y4 : zAV) (w103 : Int32) : zev cc_X10_bestLaw G 0 krI (zE 93 (.iload 5) 2 :: zE 95 (.istore_n 2) 1 :: zE 96 (.iload 6) 2 :: zE 98 (.istore_n 3) 1 :: zE 99 (.iload 7) 2 :: zE 101 (.istore 4) 2 :: zEk 103 (.iinc 5 1) 3 w103 :: es) σ [vR 10 0, vI x1, y2, y3, y4, vI x5, vI x6, vI x7] [] = zev cc_X10_bestLaw G 0 krI es σ [vR 10 0, vI x1, vI x5, vI x6, vI x7, vI (x5 + w103), vI x6, vI x7] [] := rfl
theorem t_X10_bestLaw_103 {G : Nat → zH → List zAV → List zAV → Option (zH × Int32)} (es : List zEnt) (σ : zH) (x1 : Int32) (x2 : Int32) (x3 : Int32) (x4 : Int32) (x5 : Int32) (y6 : zAV) (y7 : zAV) (w103 : Int32) : zev cc_X10_bestLaw G 0 krI (zEk 103 (.iinc 5 1) 3 w103 :: es) σ [vR 10 0, vI x1, vI x2, vI x3, vI x4, vI x5, y6, y7] [] = zev cc_X10_bestLaw G 0 krI es σ [vR 10 0, vI x1, vI x2, vI x3, vI x4, vI (x5 + w103), y6, y7] [] := rfl
theorem t_X10_bestLaw_109 {G : Nat → zH → List zAV → List zAV → Option (zH × Int32)} (es : List zEnt) (σ : zH) (x2 : Int32) (y0 : zAV) (y1 : zAV) (y3 : zAV) (y4 : zAV) (y5 : zAV) (y6 : zAV) (y7 : zAV)  : zev cc_X10_bestLaw G 0 krI (zE 109 (.iload_n 2) 1 :: es) σ [y0, y1, vI x2, y3, y4, y5, y6, y7] [] = zev cc_X10_bestLaw G 0 krI es σ [y0, y1, vI x2, y3, y4, y5, y6, y7] [vI x2] := rfl
noncomputable def j_X10_bestLaw_93 (c24 : zH → Int32 → Int32 → Int32 → Int32 → Int32 → Option (zH × Int32)) (σ : zH) (x1 : Int32) (x5 : Int32) (x6 : Int32) (x7 : Int32) : Option (zH × Int32) :=
  c24 σ x1 x5 x6 x7 (x5 + (1 : Int32))
theorem e_X10_bestLaw_93 (c24 : zH → Int32 → Int32 → Int32 → Int32 → Int32 → Option (zH × Int32)) (σ : zH) (x1 : Int32) (x5 : Int32) (x6 : Int32) (x7 : Int32) (y2 : zAV) (y3 : zAV) (y4 : zAV) : j_X10_bestLaw_93 c24 σ x1 x5 x6 x7 = zin cc_X10_bestLaw (fun t => if t = 24 then some (gl_X10_bestLaw_24 c24) else none) 0 krI b_X10_bestLaw 93 σ [vR 10 0, vI x1, y2, y3, y4, vI x5, vI x6, vI x7] [] := by
  unfold j_X10_bestLaw_93
  refine Eq.symm ((zin_b (es := q_X10_bestLaw_93) rfl).trans ?_)
  refine (t_X10_bestLaw_93 _ _ _ _ _ _ _ _ _ _).trans ?_
  refine x_goto.trans ?_
  exact (zrun_c rfl).trans (glr_X10_bestLaw_24 _ _ _ _ _ _ _ _ _)
theorem s_X10_bestLaw_93 {X : zX} (hX : zHX X) {c24 : zH → Int32 → Int32 → Int32 → Int32 → Int32 → Option (zH × Int32)} (h24 : ∀ σ L st r, gl_X10_bestLaw_24 c24 σ L st = some r → zGW X 119 krI 24 σ L st r) : ∀ σ L st r, gl_X10_bestLaw_93 (j_X10_bestLaw_93 c24) σ L st = some r → zGW X 119 krI 93 σ L st r := by
  intro σ L st r h
  unfold gl_X10_bestLaw_93 at h
  split at h
  · exact zin_ok (hy_X10_bestLaw hX) bk_X10_bestLaw (fun t f hf => by
    by_cases e24 : t = 24
    · rw [if_pos e24] at hf; subst e24; cases hf; exact h24
    rw [if_neg e24] at hf
    cases hf) ((e_X10_bestLaw_93 _ _ _ _ _ _ _ _ _).symm.trans h)
  · cases h
noncomputable def k_X10_bestLaw_24  : Nat → zH → Int32 → Int32 → Int32 → Int32 → Int32 → Option (zH × Int32)
  | 0, _, _, _, _, _, _ => none
  | n + 1, σ, x1, x2, x3, x4, x5 =>
    if x5 < (σ.1 10 0 5) then
      ix x5 6 fun j1 =>
      (d_X2_play σ (0 + j1) x1).bind fun σ2 =>
      (d_X2_outcome σ2 (1 : Int32)).bind fun p3 =>
      (d_X2_outcome p3.1 (3 : Int32)).bind fun p4 =>
      if x2 = (-2 : Int32) then
        (j_X10_bestLaw_93 (k_X10_bestLaw_24 n)) p4.1 x1 x5 p3.2 p4.2
      else
        if p3.2 < x3 then
          (j_X10_bestLaw_93 (k_X10_bestLaw_24 n)) p4.1 x1 x5 p3.2 p4.2
        else
          if p3.2 = x3 then
            if p4.2 < x4 then
              (j_X10_bestLaw_93 (k_X10_bestLaw_24 n)) p4.1 x1 x5 p3.2 p4.2
            else
              (k_X10_bestLaw_24 n) p4.1 x1 x2 x3 x4 (x5 + (1 : Int32))
          else
            (k_X10_bestLaw_24 n) p4.1 x1 x2 x3 x4 (x5 + (1 : Int32))
    else
      some (σ, x2)
theorem e_X10_bestLaw_24  (n : Nat) (σ : zH) (x1 : Int32) (x2 : Int32) (x3 : Int32) (x4 : Int32) (x5 : Int32) (y6 : zAV) (y7 : zAV) : k_X10_bestLaw_24 (n + 1) σ x1 x2 x3 x4 x5 = zin cc_X10_bestLaw (fun t => if t = 24 then some (gl_X10_bestLaw_24 (k_X10_bestLaw_24 n)) else if t = 93 then some (gl_X10_bestLaw_93 (j_X10_bestLaw_93 (k_X10_bestLaw_24 n))) else none) 0 krI b_X10_bestLaw 24 σ [vR 10 0, vI x1, vI x2, vI x3, vI x4, vI x5, y6, y7] [] := by
  rw [k_X10_bestLaw_24]
  refine Eq.symm ((zin_b (es := q_X10_bestLaw_24) rfl).trans ?_)
  refine (t_X10_bestLaw_24 _ _ _ _ _ _ _ _ _).trans ?_
  refine x_icmp.trans (pif_ge ?_ ?_)
  · refine (zrun_b (es := q_X10_bestLaw_109) rfl rfl).trans ?_
    refine (t_X10_bestLaw_109 _ _ _ _ _ _ _ _ _ _).trans ?_
    exact x_iret
  · refine (t_X10_bestLaw_33 _ _ _ _ _ _ _ _ _).trans ?_
    refine (x_aald (N := 6) rfl rfl rfl rfl).trans (pix fun _ => ?_)
    refine (t_X10_bestLaw_44 _ _ _ _ _ _ _ _ _ _).trans ?_
    refine (x_callV rfl rfl rfl rfl).trans ((cl_X10_bestLaw_X2_play _ _ _).trans ((gr_X2_play _ _ _ _).trans (pbd fun _ => ?_)))
    refine (t_X10_bestLaw_48 _ _ _ _ _ _ _ _ _ _).trans ?_
    refine (x_callV rfl rfl rfl rfl).trans ((cl_X10_bestLaw_X2_outcome _ _ _).trans ((gr_X2_outcome _ _ _).trans (pbd fun _ => ?_)))
    refine (t_X10_bestLaw_56 _ _ _ _ _ _ _ _ _ _ _).trans ?_
    refine (x_callV rfl rfl rfl rfl).trans ((cl_X10_bestLaw_X2_outcome _ _ _).trans ((gr_X2_outcome _ _ _).trans (pbd fun _ => ?_)))
    refine (t_X10_bestLaw_66 _ _ _ _ _ _ _ _ _ _ _).trans ?_
    refine x_icmp.trans (pif_eq ?_ ?_)
    · exact (zrun_c rfl).trans (glr_X10_bestLaw_93 _ _ _ _ _ _ _ _ _)
    · refine (t_X10_bestLaw_74 _ _ _ _ _ _ _ _ _).trans ?_
      refine x_icmp.trans (pif_lt ?_ ?_)
      · exact (zrun_c rfl).trans (glr_X10_bestLaw_93 _ _ _ _ _ _ _ _ _)
      · refine (t_X10_bestLaw_80 _ _ _ _ _ _ _ _ _).trans ?_
        refine x_icmp.trans (pif_ne ?_ ?_)
        · refine (zrun_b (es := q_X10_bestLaw_103) rfl rfl).trans ?_
          refine (t_X10_bestLaw_103 _ _ _ _ _ _ _ _ _ _).trans ?_
          refine x_goto.trans ?_
          exact (zrun_c rfl).trans (glr_X10_bestLaw_24 _ _ _ _ _ _ _ _ _)
        · refine (t_X10_bestLaw_86 _ _ _ _ _ _ _ _ _).trans ?_
          refine x_icmp.trans (pif_ge ?_ ?_)
          · refine (zrun_b (es := q_X10_bestLaw_103) rfl rfl).trans ?_
            refine (t_X10_bestLaw_103 _ _ _ _ _ _ _ _ _ _).trans ?_
            refine x_goto.trans ?_
            exact (zrun_c rfl).trans (glr_X10_bestLaw_24 _ _ _ _ _ _ _ _ _)
          · refine x_cut.trans ?_
            exact (zrun_c rfl).trans (glr_X10_bestLaw_93 _ _ _ _ _ _ _ _ _)
theorem s_X10_bestLaw_24 {X : zX} (hX : zHX X)   : ∀ n σ L st r, gl_X10_bestLaw_24 (k_X10_bestLaw_24 n) σ L st = some r → zGW X 119 krI 24 σ L st r := by
  intro n
  induction n with
  | zero =>
    intro σ L st r h
    unfold gl_X10_bestLaw_24 at h
    split at h <;> cases h
  | succ n ih =>
    intro σ L st r h
    unfold gl_X10_bestLaw_24 at h
    split at h
    · exact zin_ok (hy_X10_bestLaw hX) bk_X10_bestLaw (fun t f hf => by
      by_cases e24 : t = 24
      · rw [if_pos e24] at hf; subst e24; cases hf; exact ih
      rw [if_neg e24] at hf
      by_cases e93 : t = 93
      · rw [if_pos e93] at hf; subst e93; cases hf; exact (s_X10_bestLaw_93 hX ih)
      rw [if_neg e93] at hf
      cases hf) ((e_X10_bestLaw_24 _ _ _ _ _ _ _ _ _).symm.trans h)
    · cases h
noncomputable def d_X10_bestLaw (σ : zH) (xa1 : Int32) : Option (zH × Int32) :=
  if xa1 < 0 then
    some (σ, (-1 : Int32))
  else
    if (192 : Int32) < xa1 then
      some (σ, (-1 : Int32))
    else
      (k_X10_bestLaw_24 zN) σ xa1 (-2 : Int32) (0 : Int32) (0 : Int32) (0 : Int32)
theorem e_X10_bestLaw (σ : zH) (xa1 : Int32) : d_X10_bestLaw σ xa1 = zin cc_X10_bestLaw (fun t => if t = 24 then some (gl_X10_bestLaw_24 (k_X10_bestLaw_24 zN)) else none) 0 krI b_X10_bestLaw 0 σ [vR 10 0, vI xa1, vU, vU, vU, vU, vU, vU] [] := by
  unfold d_X10_bestLaw
  refine Eq.symm ((zin_b (es := q_X10_bestLaw_0) rfl).trans ?_)
  refine (t_X10_bestLaw_0 _ _ _ _ _ _ _ _ _).trans ?_
  refine x_if.trans (pif_lt ?_ ?_)
  · refine (zrun_b (es := q_X10_bestLaw_11) rfl rfl).trans ?_
    refine (t_X10_bestLaw_11 _ _ _ _ _ _ _ _ _ _ _).trans ?_
    exact x_iret
  · refine (t_X10_bestLaw_4 _ _ _ _ _ _ _ _ _ _).trans ?_
    refine x_icmp.trans (pif_le ?_ ?_)
    · refine (zrun_b (es := q_X10_bestLaw_13) rfl rfl).trans ?_
      refine (t_X10_bestLaw_13 _ _ _ _ _ _ _ _ _ _ _ _ _).trans ?_
      refine x_cut.trans ?_
      exact (zrun_c rfl).trans (glr_X10_bestLaw_24 _ _ _ _ _ _ _ _ _)
    · refine (t_X10_bestLaw_11 _ _ _ _ _ _ _ _ _ _ _).trans ?_
      exact x_iret
noncomputable def g_X10_bestLaw {ρ : Type} (σ : zH) (av : List zAV) (q : zH → zAV → Option ρ) : Option ρ := match av with
  | [.inr (.inr (.inl (10, 0))), .inl xa1] => (d_X10_bestLaw σ xa1).bind fun p => q p.1 (vI p.2)
  | _ => none
theorem gr_X10_bestLaw {ρ : Type} (σ : zH) (xa1 : Int32) (q : zH → zAV → Option ρ) : g_X10_bestLaw σ [vR 10 0, vI xa1] q = (d_X10_bestLaw σ xa1).bind fun p => q p.1 (vI p.2) := rfl
theorem c_X10_bestLaw {ρ : Type} {X : zX} (hX : zHX X) {σ : zH} {av : List zAV} {q : zH → zAV → Option ρ} {r : ρ} (h : g_X10_bestLaw σ av q = some r) (hv : ∀ a ∈ av, zval X a) : zcon X 119 σ av q r := by
  unfold g_X10_bestLaw at h
  split at h
  · exact zcon_I (n := 119) (ml := 8) (rc := 0) (st := 0) (kd := 10) (np := 1) (by decide +kernel) (by decide) ⟨_, _, rfl, rfl⟩ (Nat.le_of_ble_eq_true rfl) hv h (fun y h1 => (zin_ok (hy_X10_bestLaw hX) bk_X10_bestLaw (fun t f hf => by
      by_cases e24 : t = 24
      · rw [if_pos e24] at hf; subst e24; cases hf; exact ((fun σ L st r h => s_X10_bestLaw_24 hX  zN σ L st r h))
      rw [if_neg e24] at hf
      cases hf) ((e_X10_bestLaw _ _).symm.trans h1)))
  · cases h
/-! SleepWaves.swap(III)I -/
def q_X10_swap_30 : List zEnt := zE 30 .ireturn 1 :: []
def q_X10_swap_29 : List zEnt := zEk 29 (.iconst (-1)) 1 (-1) :: q_X10_swap_30
def q_X10_swap_26 : List zEnt := zEa 26 (.if_icmp .le 5) 3 31 :: q_X10_swap_29
def q_X10_swap_24 : List zEnt := zE 24 (.iload_n 3) 1 :: zEk 25 (.iconst 1) 1 1 :: q_X10_swap_26
def q_X10_swap_21 : List zEnt := zEa 21 (.ifCond .lt 8) 3 29 :: q_X10_swap_24
def q_X10_swap_20 : List zEnt := zE 20 (.iload_n 3) 1 :: q_X10_swap_21
def q_X10_swap_17 : List zEnt := zEa 17 (.if_icmp .gt 12) 3 29 :: q_X10_swap_20
def q_X10_swap_13 : List zEnt := zE 13 (.iload_n 2) 1 :: zEk 14 (.sipush 192) 3 192 :: q_X10_swap_17
def q_X10_swap_10 : List zEnt := zEa 10 (.if_icmp .lt 19) 3 29 :: q_X10_swap_13
def q_X10_swap_8 : List zEnt := zE 8 (.iload_n 2) 1 :: zEk 9 (.iconst 1) 1 1 :: q_X10_swap_10
def q_X10_swap_5 : List zEnt := zEa 5 (.ifCond .eq 24) 3 29 :: q_X10_swap_8
def q_X10_swap_2 : List zEnt := zEc 2 (.invokevirtual 122) 3 122 2 50 0 :: q_X10_swap_5
def q_X10_swap_0 : List zEnt := zE 0 (.aload_n 0) 1 :: zE 1 (.iload_n 1) 1 :: q_X10_swap_2
def q_X10_swap_54 : List zEnt := zE 54 .ireturn 1 :: []
def q_X10_swap_53 : List zEnt := zE 53 .iaload 1 :: q_X10_swap_54
def q_X10_swap_45 : List zEnt := zE 45 (.aload_n 0) 1 :: zEf 46 (.getfield 82) 3 10 11 147 (2, 2, 0) :: zEf 49 (.getfield 258) 3 2 4 132 (2, 22, 0) :: zE 52 (.iload_n 3) 1 :: q_X10_swap_53
def q_X10_swap_42 : List zEnt := zEc 42 (.invokevirtual 277) 3 23 3 113 1 :: q_X10_swap_45
def q_X10_swap_41 : List zEnt := zE 41 (.iload_n 2) 1 :: q_X10_swap_42
def q_X10_swap_40 : List zEnt := zE 40 .aaload 1 :: q_X10_swap_41
def q_X10_swap_31 : List zEnt := zE 31 (.aload_n 0) 1 :: zEf 32 (.getfield 82) 3 10 11 147 (2, 2, 0) :: zE 35 (.aload_n 0) 1 :: zEf 36 (.getfield 46) 3 10 4 140 (2, 38, 0) :: zE 39 (.iload_n 1) 1 :: q_X10_swap_40
def b_X10_swap : List (Nat × List zEnt) := [(0, q_X10_swap_0), (29, q_X10_swap_29), (31, q_X10_swap_31)]
theorem bk_X10_swap : zchB 120 b_X10_swap = true := by decide +kernel
noncomputable def cc_X10_swap {ρ : Type} : Nat → zH → List zAV → (zH → zAV → Option ρ) → Option ρ := fun n σ av q => if n = 122 then g_X10_isLaw σ av q else if n = 23 then g_X2_findSwap σ av q else none
theorem cs_X10_swap {ρ : Type} {X : zX} (hX : zHX X) : zCS X (cc_X10_swap (ρ := ρ)) := by
  intro n σ av q r h hv
  unfold cc_X10_swap at h
  by_cases e_X10_isLaw : n = 122
  · rw [if_pos e_X10_isLaw] at h
    subst e_X10_isLaw
    exact c_X10_isLaw hX h hv
  rw [if_neg e_X10_isLaw] at h
  by_cases e_X2_findSwap : n = 23
  · rw [if_pos e_X2_findSwap] at h
    subst e_X2_findSwap
    exact c_X2_findSwap hX h hv
  rw [if_neg e_X2_findSwap] at h
  cases h
theorem cl_X10_swap_X10_isLaw {ρ : Type} (σ : zH) (av : List zAV) (q : zH → zAV → Option ρ) : cc_X10_swap 122 σ av q = g_X10_isLaw σ av q := rfl
theorem cl_X10_swap_X2_findSwap {ρ : Type} (σ : zH) (av : List zAV) (q : zH → zAV → Option ρ) : cc_X10_swap 23 σ av q = g_X2_findSwap σ av q := rfl
theorem hy_X10_swap {ρ : Type} {X : zX} (hX : zHX X) : zHY X 120 (cc_X10_swap (ρ := ρ)) := zHX.hY hX (cs_X10_swap hX) (zmok_all 120 (by decide))
theorem t_X10_swap_0 {G : Nat → zH → List zAV → List zAV → Option (zH × Int32)} (es : List zEnt) (σ : zH) (x1 : Int32) (x2 : Int32) (x3 : Int32)   : zev cc_X10_swap G 0 krI (zE 0 (.aload_n 0) 1 :: zE 1 (.iload_n 1) 1 :: es) σ [vR 10 0, vI x1, vI x2, vI x3] [] = zev cc_X10_swap G 0 krI es σ [vR 10 0, vI x1, vI x2, vI x3] [vI x1, vR 10 0] := rfl
theorem t_X10_swap_8 {G : Nat → zH → List zAV → List zAV → Option (zH × Int32)} (es : List zEnt) (σ : zH) (x1 : Int32) (x2 : Int32) (x3 : Int32)  (w9 : Int32) : zev cc_X10_swap G 0 krI (zE 8 (.iload_n 2) 1 :: zEk 9 (.iconst 1) 1 w9 :: es) σ [vR 10 0, vI x1, vI x2, vI x3] [] = zev cc_X10_swap G 0 krI es σ [vR 10 0, vI x1, vI x2, vI x3] [vI w9, vI x2] := rfl
theorem t_X10_swap_13 {G : Nat → zH → List zAV → List zAV → Option (zH × Int32)} (es : List zEnt) (σ : zH) (x1 : Int32) (x2 : Int32) (x3 : Int32)  (w14 : Int32) : zev cc_X10_swap G 0 krI (zE 13 (.iload_n 2) 1 :: zEk 14 (.sipush 192) 3 w14 :: es) σ [vR 10 0, vI x1, vI x2, vI x3] [] = zev cc_X10_swap G 0 krI es σ [vR 10 0, vI x1, vI x2, vI x3] [vI w14, vI x2] := rfl
theorem t_X10_swap_20 {G : Nat → zH → List zAV → List zAV → Option (zH × Int32)} (es : List zEnt) (σ : zH) (x1 : Int32) (x2 : Int32) (x3 : Int32)   : zev cc_X10_swap G 0 krI (zE 20 (.iload_n 3) 1 :: es) σ [vR 10 0, vI x1, vI x2, vI x3] [] = zev cc_X10_swap G 0 krI es σ [vR 10 0, vI x1, vI x2, vI x3] [vI x3] := rfl
theorem t_X10_swap_24 {G : Nat → zH → List zAV → List zAV → Option (zH × Int32)} (es : List zEnt) (σ : zH) (x1 : Int32) (x2 : Int32) (x3 : Int32)  (w25 : Int32) : zev cc_X10_swap G 0 krI (zE 24 (.iload_n 3) 1 :: zEk 25 (.iconst 1) 1 w25 :: es) σ [vR 10 0, vI x1, vI x2, vI x3] [] = zev cc_X10_swap G 0 krI es σ [vR 10 0, vI x1, vI x2, vI x3] [vI w25, vI x3] := rfl
theorem t_X10_swap_29 {G : Nat → zH → List zAV → List zAV → Option (zH × Int32)} (es : List zEnt) (σ : zH)  (y0 : zAV) (y1 : zAV) (y2 : zAV) (y3 : zAV) (w29 : Int32) : zev cc_X10_swap G 0 krI (zEk 29 (.iconst (-1)) 1 w29 :: es) σ [y0, y1, y2, y3] [] = zev cc_X10_swap G 0 krI es σ [y0, y1, y2, y3] [vI w29] := rfl
theorem t_X10_swap_31 {G : Nat → zH → List zAV → List zAV → Option (zH × Int32)} (es : List zEnt) (σ : zH) (x1 : Int32) (x2 : Int32) (x3 : Int32)   : zev cc_X10_swap G 0 krI (zE 31 (.aload_n 0) 1 :: zEf 32 (.getfield 82) 3 10 11 147 (2, 2, 0) :: zE 35 (.aload_n 0) 1 :: zEf 36 (.getfield 46) 3 10 4 140 (2, 38, 0) :: zE 39 (.iload_n 1) 1 :: es) σ [vR 10 0, vI x1, vI x2, vI x3] [] = zev cc_X10_swap G 0 krI es σ [vR 10 0, vI x1, vI x2, vI x3] [vI x1, vR 38 0, vR 2 0] := rfl
theorem t_X10_swap_41 {G : Nat → zH → List zAV → List zAV → Option (zH × Int32)} (es : List zEnt) (σ : zH) (x2 : Int32) (x3 : Int32) (is1 : Nat) (y1 : zAV)  : zev cc_X10_swap G 0 krI (zE 41 (.iload_n 2) 1 :: es) σ [vR 10 0, y1, vI x2, vI x3] [vR 4 is1, vR 2 0] = zev cc_X10_swap G 0 krI es σ [vR 10 0, y1, vI x2, vI x3] [vI x2, vR 4 is1, vR 2 0] := rfl
theorem t_X10_swap_45 {G : Nat → zH → List zAV → List zAV → Option (zH × Int32)} (es : List zEnt) (σ : zH) (x3 : Int32) (y1 : zAV) (y2 : zAV)  : zev cc_X10_swap G 0 krI (zE 45 (.aload_n 0) 1 :: zEf 46 (.getfield 82) 3 10 11 147 (2, 2, 0) :: zEf 49 (.getfield 258) 3 2 4 132 (2, 22, 0) :: zE 52 (.iload_n 3) 1 :: es) σ [vR 10 0, y1, y2, vI x3] [] = zev cc_X10_swap G 0 krI es σ [vR 10 0, y1, y2, vI x3] [vI x3, vR 22 0] := rfl
noncomputable def d_X10_swap (σ : zH) (xa1 : Int32) (xa2 : Int32) (xa3 : Int32) : Option (zH × Int32) :=
  (d_X10_isLaw σ xa1).bind fun p1 =>
  if p1.2 = 0 then
    some (p1.1, (-1 : Int32))
  else
    if xa2 < (1 : Int32) then
      some (p1.1, (-1 : Int32))
    else
      if (192 : Int32) < xa2 then
        some (p1.1, (-1 : Int32))
      else
        if xa3 < 0 then
          some (p1.1, (-1 : Int32))
        else
          if (1 : Int32) < xa3 then
            some (p1.1, (-1 : Int32))
          else
            ix xa1 6 fun j2 =>
            (d_X2_findSwap p1.1 (0 + j2) xa2).bind fun σ3 =>
            ix xa3 3 fun j4 =>
            some (σ3, (σ3.1 22 0 j4))
theorem e_X10_swap (σ : zH) (xa1 : Int32) (xa2 : Int32) (xa3 : Int32) : d_X10_swap σ xa1 xa2 xa3 = zin cc_X10_swap (fun t => none) 0 krI b_X10_swap 0 σ [vR 10 0, vI xa1, vI xa2, vI xa3] [] := by
  unfold d_X10_swap
  refine Eq.symm ((zin_b (es := q_X10_swap_0) rfl).trans ?_)
  refine (t_X10_swap_0 _ _ _ _ _).trans ?_
  refine (x_callV rfl rfl rfl rfl).trans ((cl_X10_swap_X10_isLaw _ _ _).trans ((gr_X10_isLaw _ _ _).trans (pbd fun _ => ?_)))
  refine x_if.trans (pif_eq ?_ ?_)
  · refine (zrun_b (es := q_X10_swap_29) rfl rfl).trans ?_
    refine (t_X10_swap_29 _ _ _ _ _ _ _).trans ?_
    exact x_iret
  · refine (t_X10_swap_8 _ _ _ _ _ _).trans ?_
    refine x_icmp.trans (pif_lt ?_ ?_)
    · refine (zrun_b (es := q_X10_swap_29) rfl rfl).trans ?_
      refine (t_X10_swap_29 _ _ _ _ _ _ _).trans ?_
      exact x_iret
    · refine (t_X10_swap_13 _ _ _ _ _ _).trans ?_
      refine x_icmp.trans (pif_gt ?_ ?_)
      · refine (zrun_b (es := q_X10_swap_29) rfl rfl).trans ?_
        refine (t_X10_swap_29 _ _ _ _ _ _ _).trans ?_
        exact x_iret
      · refine (t_X10_swap_20 _ _ _ _ _).trans ?_
        refine x_if.trans (pif_lt ?_ ?_)
        · refine (zrun_b (es := q_X10_swap_29) rfl rfl).trans ?_
          refine (t_X10_swap_29 _ _ _ _ _ _ _).trans ?_
          exact x_iret
        · refine (t_X10_swap_24 _ _ _ _ _ _).trans ?_
          refine x_icmp.trans (pif_le ?_ ?_)
          · refine (zrun_b (es := q_X10_swap_31) rfl rfl).trans ?_
            refine (t_X10_swap_31 _ _ _ _ _).trans ?_
            refine (x_aald (N := 6) rfl rfl rfl rfl).trans (pix fun _ => ?_)
            refine (t_X10_swap_41 _ _ _ _ _ _).trans ?_
            refine (x_callV rfl rfl rfl rfl).trans ((cl_X10_swap_X2_findSwap _ _ _).trans ((gr_X2_findSwap _ _ _ _).trans (pbd fun _ => ?_)))
            refine (t_X10_swap_45 _ _ _ _ _).trans ?_
            refine (x_iald (N := 3) rfl rfl).trans (pix fun _ => ?_)
            exact x_iret
          · refine (t_X10_swap_29 _ _ _ _ _ _ _).trans ?_
            exact x_iret
noncomputable def g_X10_swap {ρ : Type} (σ : zH) (av : List zAV) (q : zH → zAV → Option ρ) : Option ρ := match av with
  | [.inr (.inr (.inl (10, 0))), .inl xa1, .inl xa2, .inl xa3] => (d_X10_swap σ xa1 xa2 xa3).bind fun p => q p.1 (vI p.2)
  | _ => none
theorem gr_X10_swap {ρ : Type} (σ : zH) (xa1 : Int32) (xa2 : Int32) (xa3 : Int32) (q : zH → zAV → Option ρ) : g_X10_swap σ [vR 10 0, vI xa1, vI xa2, vI xa3] q = (d_X10_swap σ xa1 xa2 xa3).bind fun p => q p.1 (vI p.2) := rfl
theorem c_X10_swap {ρ : Type} {X : zX} (hX : zHX X) {σ : zH} {av : List zAV} {q : zH → zAV → Option ρ} {r : ρ} (h : g_X10_swap σ av q = some r) (hv : ∀ a ∈ av, zval X a) : zcon X 120 σ av q r := by
  unfold g_X10_swap at h
  split at h
  · exact zcon_I (n := 120) (ml := 4) (rc := 0) (st := 0) (kd := 10) (np := 3) (by decide +kernel) (by decide) ⟨_, _, rfl, rfl⟩ (Nat.le_of_ble_eq_true rfl) hv h (fun y h1 => (zin_ok (hy_X10_swap hX) bk_X10_swap (fun t f hf => by
      cases hf) ((e_X10_swap _ _ _ _).symm.trans h1)))
  · cases h
/-! SleepWaves.strike(III)I -/
def q_X10_strike_29 : List zEnt := zE 29 .ireturn 1 :: []
def q_X10_strike_28 : List zEnt := zEk 28 (.iconst (-1)) 1 (-1) :: q_X10_strike_29
def q_X10_strike_25 : List zEnt := zEa 25 (.if_icmp .le 5) 3 30 :: q_X10_strike_28
def q_X10_strike_23 : List zEnt := zE 23 (.iload_n 3) 1 :: zEk 24 (.iconst 1) 1 1 :: q_X10_strike_25
def q_X10_strike_20 : List zEnt := zEa 20 (.ifCond .lt 8) 3 28 :: q_X10_strike_23
def q_X10_strike_19 : List zEnt := zE 19 (.iload_n 3) 1 :: q_X10_strike_20
def q_X10_strike_16 : List zEnt := zEa 16 (.if_icmp .gt 12) 3 28 :: q_X10_strike_19
def q_X10_strike_13 : List zEnt := zE 13 (.iload_n 2) 1 :: zEk 14 (.bipush 96) 2 96 :: q_X10_strike_16
def q_X10_strike_10 : List zEnt := zEa 10 (.if_icmp .lt 18) 3 28 :: q_X10_strike_13
def q_X10_strike_8 : List zEnt := zE 8 (.iload_n 2) 1 :: zEk 9 (.iconst 1) 1 1 :: q_X10_strike_10
def q_X10_strike_5 : List zEnt := zEa 5 (.ifCond .eq 23) 3 28 :: q_X10_strike_8
def q_X10_strike_2 : List zEnt := zEc 2 (.invokevirtual 122) 3 122 2 50 0 :: q_X10_strike_5
def q_X10_strike_0 : List zEnt := zE 0 (.aload_n 0) 1 :: zE 1 (.iload_n 1) 1 :: q_X10_strike_2
def q_X10_strike_53 : List zEnt := zE 53 .ireturn 1 :: []
def q_X10_strike_52 : List zEnt := zE 52 .iaload 1 :: q_X10_strike_53
def q_X10_strike_44 : List zEnt := zE 44 (.aload_n 0) 1 :: zEf 45 (.getfield 82) 3 10 11 147 (2, 2, 0) :: zEf 48 (.getfield 258) 3 2 4 132 (2, 22, 0) :: zE 51 (.iload_n 3) 1 :: q_X10_strike_52
def q_X10_strike_41 : List zEnt := zEc 41 (.invokevirtual 280) 3 24 3 115 1 :: q_X10_strike_44
def q_X10_strike_40 : List zEnt := zE 40 (.iload_n 2) 1 :: q_X10_strike_41
def q_X10_strike_39 : List zEnt := zE 39 .aaload 1 :: q_X10_strike_40
def q_X10_strike_30 : List zEnt := zE 30 (.aload_n 0) 1 :: zEf 31 (.getfield 82) 3 10 11 147 (2, 2, 0) :: zE 34 (.aload_n 0) 1 :: zEf 35 (.getfield 46) 3 10 4 140 (2, 38, 0) :: zE 38 (.iload_n 1) 1 :: q_X10_strike_39
def b_X10_strike : List (Nat × List zEnt) := [(0, q_X10_strike_0), (28, q_X10_strike_28), (30, q_X10_strike_30)]
theorem bk_X10_strike : zchB 121 b_X10_strike = true := by decide +kernel
noncomputable def cc_X10_strike {ρ : Type} : Nat → zH → List zAV → (zH → zAV → Option ρ) → Option ρ := fun n σ av q => if n = 122 then g_X10_isLaw σ av q else if n = 24 then g_X2_findStrike σ av q else none
theorem cs_X10_strike {ρ : Type} {X : zX} (hX : zHX X) : zCS X (cc_X10_strike (ρ := ρ)) := by
  intro n σ av q r h hv
  unfold cc_X10_strike at h
  by_cases e_X10_isLaw : n = 122
  · rw [if_pos e_X10_isLaw] at h
    subst e_X10_isLaw
    exact c_X10_isLaw hX h hv
  rw [if_neg e_X10_isLaw] at h
  by_cases e_X2_findStrike : n = 24
  · rw [if_pos e_X2_findStrike] at h
    subst e_X2_findStrike
    exact c_X2_findStrike hX h hv
  rw [if_neg e_X2_findStrike] at h
  cases h
theorem cl_X10_strike_X10_isLaw {ρ : Type} (σ : zH) (av : List zAV) (q : zH → zAV → Option ρ) : cc_X10_strike 122 σ av q = g_X10_isLaw σ av q := rfl
theorem cl_X10_strike_X2_findStrike {ρ : Type} (σ : zH) (av : List zAV) (q : zH → zAV → Option ρ) : cc_X10_strike 24 σ av q = g_X2_findStrike σ av q := rfl
theorem hy_X10_strike {ρ : Type} {X : zX} (hX : zHX X) : zHY X 121 (cc_X10_strike (ρ := ρ)) := zHX.hY hX (cs_X10_strike hX) (zmok_all 121 (by decide))
theorem t_X10_strike_0 {G : Nat → zH → List zAV → List zAV → Option (zH × Int32)} (es : List zEnt) (σ : zH) (x1 : Int32) (x2 : Int32) (x3 : Int32)   : zev cc_X10_strike G 0 krI (zE 0 (.aload_n 0) 1 :: zE 1 (.iload_n 1) 1 :: es) σ [vR 10 0, vI x1, vI x2, vI x3] [] = zev cc_X10_strike G 0 krI es σ [vR 10 0, vI x1, vI x2, vI x3] [vI x1, vR 10 0] := rfl
theorem t_X10_strike_8 {G : Nat → zH → List zAV → List zAV → Option (zH × Int32)} (es : List zEnt) (σ : zH) (x1 : Int32) (x2 : Int32) (x3 : Int32)  (w9 : Int32) : zev cc_X10_strike G 0 krI (zE 8 (.iload_n 2) 1 :: zEk 9 (.iconst 1) 1 w9 :: es) σ [vR 10 0, vI x1, vI x2, vI x3] [] = zev cc_X10_strike G 0 krI es σ [vR 10 0, vI x1, vI x2, vI x3] [vI w9, vI x2] := rfl
theorem t_X10_strike_13 {G : Nat → zH → List zAV → List zAV → Option (zH × Int32)} (es : List zEnt) (σ : zH) (x1 : Int32) (x2 : Int32) (x3 : Int32)  (w14 : Int32) : zev cc_X10_strike G 0 krI (zE 13 (.iload_n 2) 1 :: zEk 14 (.bipush 96) 2 w14 :: es) σ [vR 10 0, vI x1, vI x2, vI x3] [] = zev cc_X10_strike G 0 krI es σ [vR 10 0, vI x1, vI x2, vI x3] [vI w14, vI x2] := rfl
theorem t_X10_strike_19 {G : Nat → zH → List zAV → List zAV → Option (zH × Int32)} (es : List zEnt) (σ : zH) (x1 : Int32) (x2 : Int32) (x3 : Int32)   : zev cc_X10_strike G 0 krI (zE 19 (.iload_n 3) 1 :: es) σ [vR 10 0, vI x1, vI x2, vI x3] [] = zev cc_X10_strike G 0 krI es σ [vR 10 0, vI x1, vI x2, vI x3] [vI x3] := rfl
theorem t_X10_strike_23 {G : Nat → zH → List zAV → List zAV → Option (zH × Int32)} (es : List zEnt) (σ : zH) (x1 : Int32) (x2 : Int32) (x3 : Int32)  (w24 : Int32) : zev cc_X10_strike G 0 krI (zE 23 (.iload_n 3) 1 :: zEk 24 (.iconst 1) 1 w24 :: es) σ [vR 10 0, vI x1, vI x2, vI x3] [] = zev cc_X10_strike G 0 krI es σ [vR 10 0, vI x1, vI x2, vI x3] [vI w24, vI x3] := rfl
theorem t_X10_strike_28 {G : Nat → zH → List zAV → List zAV → Option (zH × Int32)} (es : List zEnt) (σ : zH)  (y0 : zAV) (y1 : zAV) (y2 : zAV) (y3 : zAV) (w28 : Int32) : zev cc_X10_strike G 0 krI (zEk 28 (.iconst (-1)) 1 w28 :: es) σ [y0, y1, y2, y3] [] = zev cc_X10_strike G 0 krI es σ [y0, y1, y2, y3] [vI w28] := rfl
theorem t_X10_strike_30 {G : Nat → zH → List zAV → List zAV → Option (zH × Int32)} (es : List zEnt) (σ : zH) (x1 : Int32) (x2 : Int32) (x3 : Int32)   : zev cc_X10_strike G 0 krI (zE 30 (.aload_n 0) 1 :: zEf 31 (.getfield 82) 3 10 11 147 (2, 2, 0) :: zE 34 (.aload_n 0) 1 :: zEf 35 (.getfield 46) 3 10 4 140 (2, 38, 0) :: zE 38 (.iload_n 1) 1 :: es) σ [vR 10 0, vI x1, vI x2, vI x3] [] = zev cc_X10_strike G 0 krI es σ [vR 10 0, vI x1, vI x2, vI x3] [vI x1, vR 38 0, vR 2 0] := rfl
theorem t_X10_strike_40 {G : Nat → zH → List zAV → List zAV → Option (zH × Int32)} (es : List zEnt) (σ : zH) (x2 : Int32) (x3 : Int32) (is1 : Nat) (y1 : zAV)  : zev cc_X10_strike G 0 krI (zE 40 (.iload_n 2) 1 :: es) σ [vR 10 0, y1, vI x2, vI x3] [vR 4 is1, vR 2 0] = zev cc_X10_strike G 0 krI es σ [vR 10 0, y1, vI x2, vI x3] [vI x2, vR 4 is1, vR 2 0] := rfl
theorem t_X10_strike_44 {G : Nat → zH → List zAV → List zAV → Option (zH × Int32)} (es : List zEnt) (σ : zH) (x3 : Int32) (y1 : zAV) (y2 : zAV)  : zev cc_X10_strike G 0 krI (zE 44 (.aload_n 0) 1 :: zEf 45 (.getfield 82) 3 10 11 147 (2, 2, 0) :: zEf 48 (.getfield 258) 3 2 4 132 (2, 22, 0) :: zE 51 (.iload_n 3) 1 :: es) σ [vR 10 0, y1, y2, vI x3] [] = zev cc_X10_strike G 0 krI es σ [vR 10 0, y1, y2, vI x3] [vI x3, vR 22 0] := rfl
noncomputable def d_X10_strike (σ : zH) (xa1 : Int32) (xa2 : Int32) (xa3 : Int32) : Option (zH × Int32) :=
  (d_X10_isLaw σ xa1).bind fun p1 =>
  if p1.2 = 0 then
    some (p1.1, (-1 : Int32))
  else
    if xa2 < (1 : Int32) then
      some (p1.1, (-1 : Int32))
    else
      if (96 : Int32) < xa2 then
        some (p1.1, (-1 : Int32))
      else
        if xa3 < 0 then
          some (p1.1, (-1 : Int32))
        else
          if (1 : Int32) < xa3 then
            some (p1.1, (-1 : Int32))
          else
            ix xa1 6 fun j2 =>
            (d_X2_findStrike p1.1 (0 + j2) xa2).bind fun σ3 =>
            ix xa3 3 fun j4 =>
            some (σ3, (σ3.1 22 0 j4))
theorem e_X10_strike (σ : zH) (xa1 : Int32) (xa2 : Int32) (xa3 : Int32) : d_X10_strike σ xa1 xa2 xa3 = zin cc_X10_strike (fun t => none) 0 krI b_X10_strike 0 σ [vR 10 0, vI xa1, vI xa2, vI xa3] [] := by
  unfold d_X10_strike
  refine Eq.symm ((zin_b (es := q_X10_strike_0) rfl).trans ?_)
  refine (t_X10_strike_0 _ _ _ _ _).trans ?_
  refine (x_callV rfl rfl rfl rfl).trans ((cl_X10_strike_X10_isLaw _ _ _).trans ((gr_X10_isLaw _ _ _).trans (pbd fun _ => ?_)))
  refine x_if.trans (pif_eq ?_ ?_)
  · refine (zrun_b (es := q_X10_strike_28) rfl rfl).trans ?_
    refine (t_X10_strike_28 _ _ _ _ _ _ _).trans ?_
    exact x_iret
  · refine (t_X10_strike_8 _ _ _ _ _ _).trans ?_
    refine x_icmp.trans (pif_lt ?_ ?_)
    · refine (zrun_b (es := q_X10_strike_28) rfl rfl).trans ?_
      refine (t_X10_strike_28 _ _ _ _ _ _ _).trans ?_
      exact x_iret
    · refine (t_X10_strike_13 _ _ _ _ _ _).trans ?_
      refine x_icmp.trans (pif_gt ?_ ?_)
      · refine (zrun_b (es := q_X10_strike_28) rfl rfl).trans ?_
        refine (t_X10_strike_28 _ _ _ _ _ _ _).trans ?_
        exact x_iret
      · refine (t_X10_strike_19 _ _ _ _ _).trans ?_
        refine x_if.trans (pif_lt ?_ ?_)
        · refine (zrun_b (es := q_X10_strike_28) rfl rfl).trans ?_
          refine (t_X10_strike_28 _ _ _ _ _ _ _).trans ?_
          exact x_iret
        · refine (t_X10_strike_23 _ _ _ _ _ _).trans ?_
          refine x_icmp.trans (pif_le ?_ ?_)
          · refine (zrun_b (es := q_X10_strike_30) rfl rfl).trans ?_
            refine (t_X10_strike_30 _ _ _ _ _).trans ?_
            refine (x_aald (N := 6) rfl rfl rfl rfl).trans (pix fun _ => ?_)
            refine (t_X10_strike_40 _ _ _ _ _ _).trans ?_
            refine (x_callV rfl rfl rfl rfl).trans ((cl_X10_strike_X2_findStrike _ _ _).trans ((gr_X2_findStrike _ _ _ _).trans (pbd fun _ => ?_)))
            refine (t_X10_strike_44 _ _ _ _ _).trans ?_
            refine (x_iald (N := 3) rfl rfl).trans (pix fun _ => ?_)
            exact x_iret
          · refine (t_X10_strike_28 _ _ _ _ _ _ _).trans ?_
            exact x_iret
noncomputable def g_X10_strike {ρ : Type} (σ : zH) (av : List zAV) (q : zH → zAV → Option ρ) : Option ρ := match av with
  | [.inr (.inr (.inl (10, 0))), .inl xa1, .inl xa2, .inl xa3] => (d_X10_strike σ xa1 xa2 xa3).bind fun p => q p.1 (vI p.2)
  | _ => none
theorem gr_X10_strike {ρ : Type} (σ : zH) (xa1 : Int32) (xa2 : Int32) (xa3 : Int32) (q : zH → zAV → Option ρ) : g_X10_strike σ [vR 10 0, vI xa1, vI xa2, vI xa3] q = (d_X10_strike σ xa1 xa2 xa3).bind fun p => q p.1 (vI p.2) := rfl
theorem c_X10_strike {ρ : Type} {X : zX} (hX : zHX X) {σ : zH} {av : List zAV} {q : zH → zAV → Option ρ} {r : ρ} (h : g_X10_strike σ av q = some r) (hv : ∀ a ∈ av, zval X a) : zcon X 121 σ av q r := by
  unfold g_X10_strike at h
  split at h
  · exact zcon_I (n := 121) (ml := 4) (rc := 0) (st := 0) (kd := 10) (np := 3) (by decide +kernel) (by decide) ⟨_, _, rfl, rfl⟩ (Nat.le_of_ble_eq_true rfl) hv h (fun y h1 => (zin_ok (hy_X10_strike hX) bk_X10_strike (fun t f hf => by
      cases hf) ((e_X10_strike _ _ _ _).symm.trans h1)))
  · cases h
/-! SleepWavesModel.in(JJJ)Z -/
def q_X11_in_14 : List zEnt := zEa 14 (.goto 4) 3 18 :: []
def q_X11_in_13 : List zEnt := zEk 13 (.iconst 1) 1 1 :: q_X11_in_14
def q_X11_in_10 : List zEnt := zEa 10 (.ifCond .gt 7) 3 17 :: q_X11_in_13
def q_X11_in_6 : List zEnt := zE 6 (.lload_n 0) 1 :: zE 7 (.lload 4) 2 :: zE 9 .lcmp 1 :: q_X11_in_10
def q_X11_in_3 : List zEnt := zEa 3 (.ifCond .lt 14) 3 17 :: q_X11_in_6
def q_X11_in_0 : List zEnt := zE 0 (.lload_n 0) 1 :: zE 1 (.lload_n 2) 1 :: zE 2 .lcmp 1 :: q_X11_in_3
def q_X11_in_18 : List zEnt := zE 18 .ireturn 1 :: []
def q_X11_in_17 : List zEnt := zEk 17 (.iconst 0) 1 0 :: q_X11_in_18
def b_X11_in : List (Nat × List zEnt) := [(0, q_X11_in_0), (17, q_X11_in_17), (18, q_X11_in_18)]
theorem bk_X11_in : zchB 125 b_X11_in = true := by decide +kernel
theorem hy_X11_in {ρ : Type} {X : zX} (hX : zHX X) : zHY X 125 (zc0 (ρ := ρ)) := zHX.hY hX (zc0_ok X) (zmok_all 125 (by decide))
theorem t_X11_in_0 {G : Nat → zH → List zAV → List zAV → Option (zH × Int32)} (es : List zEnt) (σ : zH) (z0 : Int64) (z2 : Int64) (z4 : Int64) (y1 : zAV) (y3 : zAV) (y5 : zAV)  : zev zc0 G 1 krI (zE 0 (.lload_n 0) 1 :: zE 1 (.lload_n 2) 1 :: zE 2 .lcmp 1 :: es) σ [vL z0, y1, vL z2, y3, vL z4, y5] [] = zev zc0 G 1 krI es σ [vL z0, y1, vL z2, y3, vL z4, y5] [vI (lg_cmp z0 z2)] := rfl
theorem t_X11_in_6 {G : Nat → zH → List zAV → List zAV → Option (zH × Int32)} (es : List zEnt) (σ : zH) (z0 : Int64) (z4 : Int64) (y1 : zAV) (y2 : zAV) (y3 : zAV) (y5 : zAV)  : zev zc0 G 1 krI (zE 6 (.lload_n 0) 1 :: zE 7 (.lload 4) 2 :: zE 9 .lcmp 1 :: es) σ [vL z0, y1, y2, y3, vL z4, y5] [] = zev zc0 G 1 krI es σ [vL z0, y1, y2, y3, vL z4, y5] [vI (lg_cmp z0 z4)] := rfl
theorem t_X11_in_13 {G : Nat → zH → List zAV → List zAV → Option (zH × Int32)} (es : List zEnt) (σ : zH)  (y0 : zAV) (y1 : zAV) (y2 : zAV) (y3 : zAV) (y4 : zAV) (y5 : zAV) (w13 : Int32) : zev zc0 G 1 krI (zEk 13 (.iconst 1) 1 w13 :: es) σ [y0, y1, y2, y3, y4, y5] [] = zev zc0 G 1 krI es σ [y0, y1, y2, y3, y4, y5] [vI w13] := rfl
theorem t_X11_in_17 {G : Nat → zH → List zAV → List zAV → Option (zH × Int32)} (es : List zEnt) (σ : zH)  (y0 : zAV) (y1 : zAV) (y2 : zAV) (y3 : zAV) (y4 : zAV) (y5 : zAV) (w17 : Int32) : zev zc0 G 1 krI (zEk 17 (.iconst 0) 1 w17 :: es) σ [y0, y1, y2, y3, y4, y5] [] = zev zc0 G 1 krI es σ [y0, y1, y2, y3, y4, y5] [vI w17] := rfl
noncomputable def d_X11_in (σ : zH) (za0 : Int64) (za1 : Int64) (za2 : Int64) : Option (zH × Int32) :=
  if (lg_cmp za0 za1) < 0 then
    some (σ, (0 : Int32))
  else
    if (0 : Int32) < (lg_cmp za0 za2) then
      some (σ, (0 : Int32))
    else
      some (σ, (1 : Int32))
theorem e_X11_in (σ : zH) (za0 : Int64) (za1 : Int64) (za2 : Int64) : d_X11_in σ za0 za1 za2 = zin zc0 (fun t => none) 1 krI b_X11_in 0 σ [vL za0, vU, vL za1, vU, vL za2, vU] [] := by
  unfold d_X11_in
  refine Eq.symm ((zin_b (es := q_X11_in_0) rfl).trans ?_)
  refine (t_X11_in_0 _ _ _ _ _ _ _ _).trans ?_
  refine x_if.trans (pif_lt ?_ ?_)
  · refine (zrun_b (es := q_X11_in_17) rfl rfl).trans ?_
    refine (t_X11_in_17 _ _ _ _ _ _ _ _ _).trans ?_
    exact x_zret.trans (tv_l (by decide +kernel))
  · refine (t_X11_in_6 _ _ _ _ _ _ _ _).trans ?_
    refine x_if.trans (pif_gt ?_ ?_)
    · refine (zrun_b (es := q_X11_in_17) rfl rfl).trans ?_
      refine (t_X11_in_17 _ _ _ _ _ _ _ _ _).trans ?_
      exact x_zret.trans (tv_l (by decide +kernel))
    · refine (t_X11_in_13 _ _ _ _ _ _ _ _ _).trans ?_
      refine x_goto.trans ?_
      refine (zrun_b (es := q_X11_in_18) rfl rfl).trans ?_
      exact x_zret.trans (tv_l (by decide +kernel))
noncomputable def g_X11_in {ρ : Type} (σ : zH) (av : List zAV) (q : zH → zAV → Option ρ) : Option ρ := match av with
  | [.inr (.inl za0), .inr (.inl za1), .inr (.inl za2)] => (d_X11_in σ za0 za1 za2).bind fun p => q p.1 (vI p.2)
  | _ => none
theorem gr_X11_in {ρ : Type} (σ : zH) (za0 : Int64) (za1 : Int64) (za2 : Int64) (q : zH → zAV → Option ρ) : g_X11_in σ [vL za0, vL za1, vL za2] q = (d_X11_in σ za0 za1 za2).bind fun p => q p.1 (vI p.2) := rfl
theorem c_X11_in {ρ : Type} {X : zX} (hX : zHX X) {σ : zH} {av : List zAV} {q : zH → zAV → Option ρ} {r : ρ} (h : g_X11_in σ av q = some r) (hv : ∀ a ∈ av, zval X a) : zcon X 125 σ av q r := by
  unfold g_X11_in at h
  split at h
  · exact zcon_I (n := 125) (ml := 6) (rc := 1) (st := 1) (kd := 11) (np := 3) (by decide +kernel) (by decide) rfl (Nat.le_of_ble_eq_true rfl) hv h (fun y h1 => (zin_ok (hy_X11_in hX) bk_X11_in (fun t f hf => by
      cases hf) ((e_X11_in _ _ _ _).symm.trans h1)))
  · cases h
/-! SleepWavesModel.has(II)Z -/
def q_X11_has_10 : List zEnt := zEa 10 (.goto 4) 3 14 :: []
def q_X11_has_9 : List zEnt := zEk 9 (.iconst 1) 1 1 :: q_X11_has_10
def q_X11_has_6 : List zEnt := zEa 6 (.if_icmp .ne 7) 3 13 :: q_X11_has_9
def q_X11_has_0 : List zEnt := zE 0 (.iload_n 0) 1 :: zE 1 (.iload_n 1) 1 :: zE 2 .ishr 1 :: zEk 3 (.iconst 1) 1 1 :: zE 4 .iand 1 :: zEk 5 (.iconst 1) 1 1 :: q_X11_has_6
def q_X11_has_14 : List zEnt := zE 14 .ireturn 1 :: []
def q_X11_has_13 : List zEnt := zEk 13 (.iconst 0) 1 0 :: q_X11_has_14
def b_X11_has : List (Nat × List zEnt) := [(0, q_X11_has_0), (13, q_X11_has_13), (14, q_X11_has_14)]
theorem bk_X11_has : zchB 126 b_X11_has = true := by decide +kernel
theorem hy_X11_has {ρ : Type} {X : zX} (hX : zHX X) : zHY X 126 (zc0 (ρ := ρ)) := zHX.hY hX (zc0_ok X) (zmok_all 126 (by decide))
theorem t_X11_has_0 {G : Nat → zH → List zAV → List zAV → Option (zH × Int32)} (es : List zEnt) (σ : zH) (x0 : Int32) (x1 : Int32)  (w3 : Int32) (w5 : Int32) : zev zc0 G 1 krI (zE 0 (.iload_n 0) 1 :: zE 1 (.iload_n 1) 1 :: zE 2 .ishr 1 :: zEk 3 (.iconst 1) 1 w3 :: zE 4 .iand 1 :: zEk 5 (.iconst 1) 1 w5 :: es) σ [vI x0, vI x1] [] = zev zc0 G 1 krI es σ [vI x0, vI x1] [vI w5, vI ((x0 >>> (x1 &&& 31)) &&& w3)] := rfl
theorem t_X11_has_9 {G : Nat → zH → List zAV → List zAV → Option (zH × Int32)} (es : List zEnt) (σ : zH)  (y0 : zAV) (y1 : zAV) (w9 : Int32) : zev zc0 G 1 krI (zEk 9 (.iconst 1) 1 w9 :: es) σ [y0, y1] [] = zev zc0 G 1 krI es σ [y0, y1] [vI w9] := rfl
theorem t_X11_has_13 {G : Nat → zH → List zAV → List zAV → Option (zH × Int32)} (es : List zEnt) (σ : zH)  (y0 : zAV) (y1 : zAV) (w13 : Int32) : zev zc0 G 1 krI (zEk 13 (.iconst 0) 1 w13 :: es) σ [y0, y1] [] = zev zc0 G 1 krI es σ [y0, y1] [vI w13] := rfl
noncomputable def d_X11_has (σ : zH) (xa0 : Int32) (xa1 : Int32) : Option (zH × Int32) :=
  if ((xa0 >>> (xa1 &&& 31)) &&& (1 : Int32)) = (1 : Int32) then
    some (σ, (1 : Int32))
  else
    some (σ, (0 : Int32))
theorem e_X11_has (σ : zH) (xa0 : Int32) (xa1 : Int32) : d_X11_has σ xa0 xa1 = zin zc0 (fun t => none) 1 krI b_X11_has 0 σ [vI xa0, vI xa1] [] := by
  unfold d_X11_has
  refine Eq.symm ((zin_b (es := q_X11_has_0) rfl).trans ?_)
  refine (t_X11_has_0 _ _ _ _ _ _).trans ?_
  refine x_icmp.trans (pif_ne ?_ ?_)
  · refine (zrun_b (es := q_X11_has_13) rfl rfl).trans ?_
    refine (t_X11_has_13 _ _ _ _ _).trans ?_
    exact x_zret.trans (tv_l (by decide +kernel))
  · refine (t_X11_has_9 _ _ _ _ _).trans ?_
    refine x_goto.trans ?_
    refine (zrun_b (es := q_X11_has_14) rfl rfl).trans ?_
    exact x_zret.trans (tv_l (by decide +kernel))
noncomputable def g_X11_has {ρ : Type} (σ : zH) (av : List zAV) (q : zH → zAV → Option ρ) : Option ρ := match av with
  | [.inl xa0, .inl xa1] => (d_X11_has σ xa0 xa1).bind fun p => q p.1 (vI p.2)
  | _ => none
theorem gr_X11_has {ρ : Type} (σ : zH) (xa0 : Int32) (xa1 : Int32) (q : zH → zAV → Option ρ) : g_X11_has σ [vI xa0, vI xa1] q = (d_X11_has σ xa0 xa1).bind fun p => q p.1 (vI p.2) := rfl
theorem c_X11_has {ρ : Type} {X : zX} (hX : zHX X) {σ : zH} {av : List zAV} {q : zH → zAV → Option ρ} {r : ρ} (h : g_X11_has σ av q = some r) (hv : ∀ a ∈ av, zval X a) : zcon X 126 σ av q r := by
  unfold g_X11_has at h
  split at h
  · exact zcon_I (n := 126) (ml := 2) (rc := 1) (st := 1) (kd := 11) (np := 2) (by decide +kernel) (by decide) rfl (Nat.le_of_ble_eq_true rfl) hv h (fun y h1 => (zin_ok (hy_X11_has hX) bk_X11_has (fun t f hf => by
      cases hf) ((e_X11_has _ _ _).symm.trans h1)))
  · cases h
/-! SleepWavesModel.isCompany(I)Z -/
def q_X11_isCompany_15 : List zEnt := zE 15 .ireturn 1 :: []
def q_X11_isCompany_12 : List zEnt := zEc 12 (.invokestatic 173) 3 125 3 129 0 :: q_X11_isCompany_15
def q_X11_isCompany_9 : List zEnt := zEk 9 (.iconst 1) 1 1 :: zE 10 .isub 1 :: zE 11 .i2l 1 :: q_X11_isCompany_12
def q_X11_isCompany_8 : List zEnt := zE 8 .iaload 1 :: q_X11_isCompany_9
def q_X11_isCompany_0 : List zEnt := zE 0 (.iload_n 1) 1 :: zE 1 .i2l 1 :: (2, (.lconst 0), 1, (0, 0, 0, 0), (0, 0, 0), 0, 0, []) :: zE 3 (.aload_n 0) 1 :: zEf 4 (.getfield 7) 3 11 1 149 (2, 42, 0) :: zEk 7 (.iconst 0) 1 0 :: q_X11_isCompany_8
def b_X11_isCompany : List (Nat × List zEnt) := [(0, q_X11_isCompany_0)]
theorem bk_X11_isCompany : zchB 127 b_X11_isCompany = true := by decide +kernel
noncomputable def cc_X11_isCompany {ρ : Type} : Nat → zH → List zAV → (zH → zAV → Option ρ) → Option ρ := fun n σ av q => if n = 125 then g_X11_in σ av q else none
theorem cs_X11_isCompany {ρ : Type} {X : zX} (hX : zHX X) : zCS X (cc_X11_isCompany (ρ := ρ)) := by
  intro n σ av q r h hv
  unfold cc_X11_isCompany at h
  by_cases e_X11_in : n = 125
  · rw [if_pos e_X11_in] at h
    subst e_X11_in
    exact c_X11_in hX h hv
  rw [if_neg e_X11_in] at h
  cases h
theorem cl_X11_isCompany_X11_in {ρ : Type} (σ : zH) (av : List zAV) (q : zH → zAV → Option ρ) : cc_X11_isCompany 125 σ av q = g_X11_in σ av q := rfl
theorem hy_X11_isCompany {ρ : Type} {X : zX} (hX : zHX X) : zHY X 127 (cc_X11_isCompany (ρ := ρ)) := zHX.hY hX (cs_X11_isCompany hX) (zmok_all 127 (by decide))
theorem t_X11_isCompany_0 {G : Nat → zH → List zAV → List zAV → Option (zH × Int32)} (es : List zEnt) (σ : zH) (x1 : Int32)  (w2 : Int64) (w7 : Int32) : zev cc_X11_isCompany G 1 krI (zE 0 (.iload_n 1) 1 :: zE 1 .i2l 1 :: (2, (.lconst 0), 1, (0, 0, 0, 0), (0, 0, 0), 0, w2, []) :: zE 3 (.aload_n 0) 1 :: zEf 4 (.getfield 7) 3 11 1 149 (2, 42, 0) :: zEk 7 (.iconst 0) 1 w7 :: es) σ [vR 11 0, vI x1] [] = zev cc_X11_isCompany G 1 krI es σ [vR 11 0, vI x1] [vI w7, vR 42 0, vL w2, vL x1.toInt64] := rfl
theorem t_X11_isCompany_9 {G : Nat → zH → List zAV → List zAV → Option (zH × Int32)} (es : List zEnt) (σ : zH) (zs0 : Int64) (zs1 : Int64) (xs2 : Int32) (y0 : zAV) (y1 : zAV) (w9 : Int32) : zev cc_X11_isCompany G 1 krI (zEk 9 (.iconst 1) 1 w9 :: zE 10 .isub 1 :: zE 11 .i2l 1 :: es) σ [y0, y1] [vI xs2, vL zs1, vL zs0] = zev cc_X11_isCompany G 1 krI es σ [y0, y1] [vL (xs2 - w9).toInt64, vL zs1, vL zs0] := rfl
noncomputable def d_X11_isCompany (σ : zH) (xa1 : Int32) : Option (zH × Int32) :=
  (d_X11_in σ xa1.toInt64 (0 : Int64) (((σ.1 42 0 0) - (1 : Int32)).toInt64)).bind fun p1 =>
  tv p1.2 <| some (p1.1, p1.2)
theorem e_X11_isCompany (σ : zH) (xa1 : Int32) : d_X11_isCompany σ xa1 = zin cc_X11_isCompany (fun t => none) 1 krI b_X11_isCompany 0 σ [vR 11 0, vI xa1] [] := by
  unfold d_X11_isCompany
  refine Eq.symm ((zin_b (es := q_X11_isCompany_0) rfl).trans ?_)
  refine (t_X11_isCompany_0 _ _ _ _ _).trans ?_
  refine ((x_iald (N := 11) rfl rfl).trans (ix_l 0 (by decide +kernel))).trans ?_
  refine (t_X11_isCompany_9 _ _ _ _ _ _ _ _).trans ?_
  refine (x_callS rfl rfl rfl rfl).trans ((cl_X11_isCompany_X11_in _ _ _).trans ((gr_X11_in _ _ _ _ _).trans (pbd fun _ => ?_)))
  exact x_zret
noncomputable def g_X11_isCompany {ρ : Type} (σ : zH) (av : List zAV) (q : zH → zAV → Option ρ) : Option ρ := match av with
  | [.inr (.inr (.inl (11, 0))), .inl xa1] => (d_X11_isCompany σ xa1).bind fun p => q p.1 (vI p.2)
  | _ => none
theorem gr_X11_isCompany {ρ : Type} (σ : zH) (xa1 : Int32) (q : zH → zAV → Option ρ) : g_X11_isCompany σ [vR 11 0, vI xa1] q = (d_X11_isCompany σ xa1).bind fun p => q p.1 (vI p.2) := rfl
theorem c_X11_isCompany {ρ : Type} {X : zX} (hX : zHX X) {σ : zH} {av : List zAV} {q : zH → zAV → Option ρ} {r : ρ} (h : g_X11_isCompany σ av q = some r) (hv : ∀ a ∈ av, zval X a) : zcon X 127 σ av q r := by
  unfold g_X11_isCompany at h
  split at h
  · exact zcon_I (n := 127) (ml := 2) (rc := 1) (st := 0) (kd := 11) (np := 1) (by decide +kernel) (by decide) ⟨_, _, rfl, rfl⟩ (Nat.le_of_ble_eq_true rfl) hv h (fun y h1 => (zin_ok (hy_X11_isCompany hX) bk_X11_isCompany (fun t f hf => by
      cases hf) ((e_X11_isCompany _ _).symm.trans h1)))
  · cases h
/-! SleepWavesModel.upSet()I -/
def q_X11_upSet_0 : List zEnt := zEk 0 (.iconst 0) 1 0 :: zE 1 (.istore_n 1) 1 :: zEk 2 (.iconst 0) 1 0 :: zE 3 (.istore_n 2) 1 :: [zE 4 .nop 0]
def q_X11_upSet_27 : List zEnt := zEa 27 (.goto 4) 3 31 :: []
def q_X11_upSet_24 : List zEnt := zEk 24 (.iconst 1) 1 1 :: zE 25 (.iload_n 2) 1 :: zE 26 .ishl 1 :: q_X11_upSet_27
def q_X11_upSet_21 : List zEnt := zEa 21 (.ifCond .ne 9) 3 30 :: q_X11_upSet_24
def q_X11_upSet_20 : List zEnt := zE 20 .iaload 1 :: q_X11_upSet_21
def q_X11_upSet_14 : List zEnt := zE 14 (.iload_n 1) 1 :: zE 15 (.aload_n 0) 1 :: zEf 16 (.getfield 70) 3 11 21 169 (2, 62, 0) :: zE 19 (.iload_n 2) 1 :: q_X11_upSet_20
def q_X11_upSet_11 : List zEnt := zEa 11 (.if_icmp .ge 28) 3 39 :: q_X11_upSet_14
def q_X11_upSet_10 : List zEnt := zE 10 .iaload 1 :: q_X11_upSet_11
def q_X11_upSet_4 : List zEnt := zE 4 (.iload_n 2) 1 :: zE 5 (.aload_n 0) 1 :: zEf 6 (.getfield 7) 3 11 1 149 (2, 42, 0) :: zEk 9 (.iconst 0) 1 0 :: q_X11_upSet_10
def q_X11_upSet_30 : List zEnt := zEk 30 (.iconst 0) 1 0 :: [zE 31 .nop 0]
def q_X11_upSet_36 : List zEnt := zEa 36 (.goto (-32)) 3 4 :: []
def q_X11_upSet_31 : List zEnt := zE 31 .ior 1 :: zE 32 (.istore_n 1) 1 :: zEk 33 (.iinc 2 1) 3 1 :: q_X11_upSet_36
def q_X11_upSet_40 : List zEnt := zE 40 .ireturn 1 :: []
def q_X11_upSet_39 : List zEnt := zE 39 (.iload_n 1) 1 :: q_X11_upSet_40
def b_X11_upSet : List (Nat × List zEnt) := [(0, q_X11_upSet_0), (4, q_X11_upSet_4), (30, q_X11_upSet_30), (31, q_X11_upSet_31), (39, q_X11_upSet_39)]
theorem bk_X11_upSet : zchB 128 b_X11_upSet = true := by decide +kernel
theorem hy_X11_upSet {ρ : Type} {X : zX} (hX : zHX X) : zHY X 128 (zc0 (ρ := ρ)) := zHX.hY hX (zc0_ok X) (zmok_all 128 (by decide))
def gl_X11_upSet_4 {ρ : Type} (f : zH → Int32 → Int32 → Option ρ) (σ : zH) (L st : List zAV) : Option ρ := match L, st with
  | [.inr (.inr (.inl (11, 0))), .inl x1, .inl x2], [] => f σ x1 x2
  | _, _ => none
def gl_X11_upSet_31 {ρ : Type} (f : zH → Int32 → Int32 → Int32 → Option ρ) (σ : zH) (L st : List zAV) : Option ρ := match L, st with
  | [.inr (.inr (.inl (11, 0))), _, .inl x2], [.inl xs1, .inl xs0] => f σ x2 xs0 xs1
  | _, _ => none
theorem glr_X11_upSet_4 {ρ : Type} (f : zH → Int32 → Int32 → Option ρ) (σ : zH) (x1 : Int32) (x2 : Int32)  : gl_X11_upSet_4 f σ [vR 11 0, vI x1, vI x2] [] = f σ x1 x2 := rfl
theorem glr_X11_upSet_31 {ρ : Type} (f : zH → Int32 → Int32 → Int32 → Option ρ) (σ : zH) (x2 : Int32) (xs0 : Int32) (xs1 : Int32) (y1 : zAV) : gl_X11_upSet_31 f σ [vR 11 0, y1, vI x2] [vI xs1, vI xs0] = f σ x2 xs0 xs1 := rfl
theorem t_X11_upSet_0 {G : Nat → zH → List zAV → List zAV → Option (zH × Int32)} (es : List zEnt) (σ : zH)  (y1 : zAV) (y2 : zAV) (w0 : Int32) (w2 : Int32) : zev zc0 G 0 krI (zEk 0 (.iconst 0) 1 w0 :: zE 1 (.istore_n 1) 1 :: zEk 2 (.iconst 0) 1 w2 :: zE 3 (.istore_n 2) 1 :: es) σ [vR 11 0, y1, y2] [] = zev zc0 G 0 krI es σ [vR 11 0, vI w0, vI w2] [] := rfl
theorem t_X11_upSet_4 {G : Nat → zH → List zAV → List zAV → Option (zH × Int32)} (es : List zEnt) (σ : zH) (x1 : Int32) (x2 : Int32)  (w9 : Int32) : zev zc0 G 0 krI (zE 4 (.iload_n 2) 1 :: zE 5 (.aload_n 0) 1 :: zEf 6 (.getfield 7) 3 11 1 149 (2, 42, 0) :: zEk 9 (.iconst 0) 1 w9 :: es) σ [vR 11 0, vI x1, vI x2] [] = zev zc0 G 0 krI es σ [vR 11 0, vI x1, vI x2] [vI w9, vR 42 0, vI x2] := rfl
theorem t_X11_upSet_14 {G : Nat → zH → List zAV → List zAV → Option (zH × Int32)} (es : List zEnt) (σ : zH) (x1 : Int32) (x2 : Int32)   : zev zc0 G 0 krI (zE 14 (.iload_n 1) 1 :: zE 15 (.aload_n 0) 1 :: zEf 16 (.getfield 70) 3 11 21 169 (2, 62, 0) :: zE 19 (.iload_n 2) 1 :: es) σ [vR 11 0, vI x1, vI x2] [] = zev zc0 G 0 krI es σ [vR 11 0, vI x1, vI x2] [vI x2, vR 62 0, vI x1] := rfl
theorem t_X11_upSet_24 {G : Nat → zH → List zAV → List zAV → Option (zH × Int32)} (es : List zEnt) (σ : zH) (x2 : Int32) (xs0 : Int32) (y1 : zAV) (w24 : Int32) : zev zc0 G 0 krI (zEk 24 (.iconst 1) 1 w24 :: zE 25 (.iload_n 2) 1 :: zE 26 .ishl 1 :: es) σ [vR 11 0, y1, vI x2] [vI xs0] = zev zc0 G 0 krI es σ [vR 11 0, y1, vI x2] [vI (w24 <<< (x2 &&& 31)), vI xs0] := rfl
theorem t_X11_upSet_30 {G : Nat → zH → List zAV → List zAV → Option (zH × Int32)} (es : List zEnt) (σ : zH) (x2 : Int32) (xs0 : Int32) (y1 : zAV) (w30 : Int32) : zev zc0 G 0 krI (zEk 30 (.iconst 0) 1 w30 :: es) σ [vR 11 0, y1, vI x2] [vI xs0] = zev zc0 G 0 krI es σ [vR 11 0, y1, vI x2] [vI w30, vI xs0] := rfl
theorem t_X11_upSet_31 {G : Nat → zH → List zAV → List zAV → Option (zH × Int32)} (es : List zEnt) (σ : zH) (x2 : Int32) (xs0 : Int32) (xs1 : Int32) (y1 : zAV) (w33 : Int32) : zev zc0 G 0 krI (zE 31 .ior 1 :: zE 32 (.istore_n 1) 1 :: zEk 33 (.iinc 2 1) 3 w33 :: es) σ [vR 11 0, y1, vI x2] [vI xs1, vI xs0] = zev zc0 G 0 krI es σ [vR 11 0, vI (xs0 ||| xs1), vI (x2 + w33)] [] := rfl
theorem t_X11_upSet_39 {G : Nat → zH → List zAV → List zAV → Option (zH × Int32)} (es : List zEnt) (σ : zH) (x1 : Int32) (y0 : zAV) (y2 : zAV)  : zev zc0 G 0 krI (zE 39 (.iload_n 1) 1 :: es) σ [y0, vI x1, y2] [] = zev zc0 G 0 krI es σ [y0, vI x1, y2] [vI x1] := rfl
noncomputable def j_X11_upSet_31 (c4 : zH → Int32 → Int32 → Option (zH × Int32)) (σ : zH) (x2 : Int32) (xs0 : Int32) (xs1 : Int32) : Option (zH × Int32) :=
  c4 σ (xs0 ||| xs1) (x2 + (1 : Int32))
theorem e_X11_upSet_31 (c4 : zH → Int32 → Int32 → Option (zH × Int32)) (σ : zH) (x2 : Int32) (xs0 : Int32) (xs1 : Int32) (y1 : zAV) : j_X11_upSet_31 c4 σ x2 xs0 xs1 = zin zc0 (fun t => if t = 4 then some (gl_X11_upSet_4 c4) else none) 0 krI b_X11_upSet 31 σ [vR 11 0, y1, vI x2] [vI xs1, vI xs0] := by
  unfold j_X11_upSet_31
  refine Eq.symm ((zin_b (es := q_X11_upSet_31) rfl).trans ?_)
  refine (t_X11_upSet_31 _ _ _ _ _ _ _).trans ?_
  refine x_goto.trans ?_
  exact (zrun_c rfl).trans (glr_X11_upSet_4 _ _ _ _)
theorem s_X11_upSet_31 {X : zX} (hX : zHX X) {c4 : zH → Int32 → Int32 → Option (zH × Int32)} (h4 : ∀ σ L st r, gl_X11_upSet_4 c4 σ L st = some r → zGW X 128 krI 4 σ L st r) : ∀ σ L st r, gl_X11_upSet_31 (j_X11_upSet_31 c4) σ L st = some r → zGW X 128 krI 31 σ L st r := by
  intro σ L st r h
  unfold gl_X11_upSet_31 at h
  split at h
  · exact zin_ok (hy_X11_upSet hX) bk_X11_upSet (fun t f hf => by
    by_cases e4 : t = 4
    · rw [if_pos e4] at hf; subst e4; cases hf; exact h4
    rw [if_neg e4] at hf
    cases hf) ((e_X11_upSet_31 _ _ _ _ _ _).symm.trans h)
  · cases h
noncomputable def k_X11_upSet_4  : Nat → zH → Int32 → Int32 → Option (zH × Int32)
  | 0, _, _, _ => none
  | n + 1, σ, x1, x2 =>
    if x2 < (σ.1 42 0 0) then
      ix x2 12 fun j1 =>
      if (σ.1 62 0 j1) = 0 then
        (j_X11_upSet_31 (k_X11_upSet_4 n)) σ x2 x1 ((1 : Int32) <<< (x2 &&& 31))
      else
        (j_X11_upSet_31 (k_X11_upSet_4 n)) σ x2 x1 (0 : Int32)
    else
      some (σ, x1)
theorem e_X11_upSet_4  (n : Nat) (σ : zH) (x1 : Int32) (x2 : Int32)  : k_X11_upSet_4 (n + 1) σ x1 x2 = zin zc0 (fun t => if t = 31 then some (gl_X11_upSet_31 (j_X11_upSet_31 (k_X11_upSet_4 n))) else none) 0 krI b_X11_upSet 4 σ [vR 11 0, vI x1, vI x2] [] := by
  rw [k_X11_upSet_4]
  refine Eq.symm ((zin_b (es := q_X11_upSet_4) rfl).trans ?_)
  refine (t_X11_upSet_4 _ _ _ _ _).trans ?_
  refine ((x_iald (N := 11) rfl rfl).trans (ix_l 0 (by decide +kernel))).trans ?_
  refine x_icmp.trans (pif_ge ?_ ?_)
  · refine (zrun_b (es := q_X11_upSet_39) rfl rfl).trans ?_
    refine (t_X11_upSet_39 _ _ _ _ _).trans ?_
    exact x_iret
  · refine (t_X11_upSet_14 _ _ _ _).trans ?_
    refine (x_iald (N := 12) rfl rfl).trans (pix fun _ => ?_)
    refine x_if.trans (pif_ne ?_ ?_)
    · refine (zrun_b (es := q_X11_upSet_30) rfl rfl).trans ?_
      refine (t_X11_upSet_30 _ _ _ _ _ _).trans ?_
      refine x_cut.trans ?_
      exact (zrun_c rfl).trans (glr_X11_upSet_31 _ _ _ _ _ _)
    · refine (t_X11_upSet_24 _ _ _ _ _ _).trans ?_
      refine x_goto.trans ?_
      exact (zrun_c rfl).trans (glr_X11_upSet_31 _ _ _ _ _ _)
theorem s_X11_upSet_4 {X : zX} (hX : zHX X)   : ∀ n σ L st r, gl_X11_upSet_4 (k_X11_upSet_4 n) σ L st = some r → zGW X 128 krI 4 σ L st r := by
  intro n
  induction n with
  | zero =>
    intro σ L st r h
    unfold gl_X11_upSet_4 at h
    split at h <;> cases h
  | succ n ih =>
    intro σ L st r h
    unfold gl_X11_upSet_4 at h
    split at h
    · exact zin_ok (hy_X11_upSet hX) bk_X11_upSet (fun t f hf => by
      by_cases e31 : t = 31
      · rw [if_pos e31] at hf; subst e31; cases hf; exact (s_X11_upSet_31 hX ih)
      rw [if_neg e31] at hf
      cases hf) ((e_X11_upSet_4 _ _ _ _).symm.trans h)
    · cases h
noncomputable def d_X11_upSet (σ : zH)  : Option (zH × Int32) :=
  (k_X11_upSet_4 zN) σ (0 : Int32) (0 : Int32)
theorem e_X11_upSet (σ : zH)  : d_X11_upSet σ = zin zc0 (fun t => if t = 4 then some (gl_X11_upSet_4 (k_X11_upSet_4 zN)) else none) 0 krI b_X11_upSet 0 σ [vR 11 0, vU, vU] [] := by
  unfold d_X11_upSet
  refine Eq.symm ((zin_b (es := q_X11_upSet_0) rfl).trans ?_)
  refine (t_X11_upSet_0 _ _ _ _ _ _).trans ?_
  refine x_cut.trans ?_
  exact (zrun_c rfl).trans (glr_X11_upSet_4 _ _ _ _)
noncomputable def g_X11_upSet {ρ : Type} (σ : zH) (av : List zAV) (q : zH → zAV → Option ρ) : Option ρ := match av with
  | [.inr (.inr (.inl (11, 0)))] => (d_X11_upSet σ).bind fun p => q p.1 (vI p.2)
  | _ => none
theorem gr_X11_upSet {ρ : Type} (σ : zH)  (q : zH → zAV → Option ρ) : g_X11_upSet σ [vR 11 0] q = (d_X11_upSet σ).bind fun p => q p.1 (vI p.2) := rfl
theorem c_X11_upSet {ρ : Type} {X : zX} (hX : zHX X) {σ : zH} {av : List zAV} {q : zH → zAV → Option ρ} {r : ρ} (h : g_X11_upSet σ av q = some r) (hv : ∀ a ∈ av, zval X a) : zcon X 128 σ av q r := by
  unfold g_X11_upSet at h
  split at h
  · exact zcon_I (n := 128) (ml := 3) (rc := 0) (st := 0) (kd := 11) (np := 0) (by decide +kernel) (by decide) ⟨_, _, rfl, rfl⟩ (Nat.le_of_ble_eq_true rfl) hv h (fun y h1 => (zin_ok (hy_X11_upSet hX) bk_X11_upSet (fun t f hf => by
      by_cases e4 : t = 4
      · rw [if_pos e4] at hf; subst e4; cases hf; exact ((fun σ L st r h => s_X11_upSet_4 hX  zN σ L st r h))
      rw [if_neg e4] at hf
      cases hf) ((e_X11_upSet _).symm.trans h1)))
  · cases h
/-! SleepWavesModel.menOf(I)I -/
def q_X11_menOf_0 : List zEnt := zEk 0 (.iconst 0) 1 0 :: zE 1 (.istore_n 2) 1 :: zEk 2 (.iconst 0) 1 0 :: zE 3 (.istore_n 3) 1 :: [zE 4 .nop 0]
def q_X11_menOf_29 : List zEnt := zEa 29 (.goto 4) 3 33 :: []
def q_X11_menOf_28 : List zEnt := zE 28 .iaload 1 :: q_X11_menOf_29
def q_X11_menOf_23 : List zEnt := zE 23 (.aload_n 0) 1 :: zEf 24 (.getfield 13) 3 11 2 150 (2, 43, 0) :: zE 27 (.iload_n 3) 1 :: q_X11_menOf_28
def q_X11_menOf_20 : List zEnt := zEa 20 (.ifCond .eq 12) 3 32 :: q_X11_menOf_23
def q_X11_menOf_17 : List zEnt := zEc 17 (.invokestatic 177) 3 126 2 154 0 :: q_X11_menOf_20
def q_X11_menOf_14 : List zEnt := zE 14 (.iload_n 2) 1 :: zE 15 (.iload_n 1) 1 :: zE 16 (.iload_n 3) 1 :: q_X11_menOf_17
def q_X11_menOf_11 : List zEnt := zEa 11 (.if_icmp .ge 30) 3 41 :: q_X11_menOf_14
def q_X11_menOf_10 : List zEnt := zE 10 .iaload 1 :: q_X11_menOf_11
def q_X11_menOf_4 : List zEnt := zE 4 (.iload_n 3) 1 :: zE 5 (.aload_n 0) 1 :: zEf 6 (.getfield 7) 3 11 1 149 (2, 42, 0) :: zEk 9 (.iconst 0) 1 0 :: q_X11_menOf_10
def q_X11_menOf_32 : List zEnt := zEk 32 (.iconst 0) 1 0 :: [zE 33 .nop 0]
def q_X11_menOf_38 : List zEnt := zEa 38 (.goto (-34)) 3 4 :: []
def q_X11_menOf_33 : List zEnt := zE 33 .iadd 1 :: zE 34 (.istore_n 2) 1 :: zEk 35 (.iinc 3 1) 3 1 :: q_X11_menOf_38
def q_X11_menOf_42 : List zEnt := zE 42 .ireturn 1 :: []
def q_X11_menOf_41 : List zEnt := zE 41 (.iload_n 2) 1 :: q_X11_menOf_42
def b_X11_menOf : List (Nat × List zEnt) := [(0, q_X11_menOf_0), (4, q_X11_menOf_4), (32, q_X11_menOf_32), (33, q_X11_menOf_33), (41, q_X11_menOf_41)]
theorem bk_X11_menOf : zchB 129 b_X11_menOf = true := by decide +kernel
noncomputable def cc_X11_menOf {ρ : Type} : Nat → zH → List zAV → (zH → zAV → Option ρ) → Option ρ := fun n σ av q => if n = 126 then g_X11_has σ av q else none
theorem cs_X11_menOf {ρ : Type} {X : zX} (hX : zHX X) : zCS X (cc_X11_menOf (ρ := ρ)) := by
  intro n σ av q r h hv
  unfold cc_X11_menOf at h
  by_cases e_X11_has : n = 126
  · rw [if_pos e_X11_has] at h
    subst e_X11_has
    exact c_X11_has hX h hv
  rw [if_neg e_X11_has] at h
  cases h
theorem cl_X11_menOf_X11_has {ρ : Type} (σ : zH) (av : List zAV) (q : zH → zAV → Option ρ) : cc_X11_menOf 126 σ av q = g_X11_has σ av q := rfl
theorem hy_X11_menOf {ρ : Type} {X : zX} (hX : zHX X) : zHY X 129 (cc_X11_menOf (ρ := ρ)) := zHX.hY hX (cs_X11_menOf hX) (zmok_all 129 (by decide))
def gl_X11_menOf_4 {ρ : Type} (f : zH → Int32 → Int32 → Int32 → Option ρ) (σ : zH) (L st : List zAV) : Option ρ := match L, st with
  | [.inr (.inr (.inl (11, 0))), .inl x1, .inl x2, .inl x3], [] => f σ x1 x2 x3
  | _, _ => none
def gl_X11_menOf_33 {ρ : Type} (f : zH → Int32 → Int32 → Int32 → Int32 → Option ρ) (σ : zH) (L st : List zAV) : Option ρ := match L, st with
  | [.inr (.inr (.inl (11, 0))), .inl x1, _, .inl x3], [.inl xs1, .inl xs0] => f σ x1 x3 xs0 xs1
  | _, _ => none
theorem glr_X11_menOf_4 {ρ : Type} (f : zH → Int32 → Int32 → Int32 → Option ρ) (σ : zH) (x1 : Int32) (x2 : Int32) (x3 : Int32)  : gl_X11_menOf_4 f σ [vR 11 0, vI x1, vI x2, vI x3] [] = f σ x1 x2 x3 := rfl
theorem glr_X11_menOf_33 {ρ : Type} (f : zH → Int32 → Int32 → Int32 → Int32 → Option ρ) (σ : zH) (x1 : Int32) (x3 : Int32) (xs0 : Int32) (xs1 : Int32) (y2 : zAV) : gl_X11_menOf_33 f σ [vR 11 0, vI x1, y2, vI x3] [vI xs1, vI xs0] = f σ x1 x3 xs0 xs1 := rfl
theorem t_X11_menOf_0 {G : Nat → zH → List zAV → List zAV → Option (zH × Int32)} (es : List zEnt) (σ : zH) (x1 : Int32) (y2 : zAV) (y3 : zAV) (w0 : Int32) (w2 : Int32) : zev cc_X11_menOf G 0 krI (zEk 0 (.iconst 0) 1 w0 :: zE 1 (.istore_n 2) 1 :: zEk 2 (.iconst 0) 1 w2 :: zE 3 (.istore_n 3) 1 :: es) σ [vR 11 0, vI x1, y2, y3] [] = zev cc_X11_menOf G 0 krI es σ [vR 11 0, vI x1, vI w0, vI w2] [] := rfl
theorem t_X11_menOf_4 {G : Nat → zH → List zAV → List zAV → Option (zH × Int32)} (es : List zEnt) (σ : zH) (x1 : Int32) (x2 : Int32) (x3 : Int32)  (w9 : Int32) : zev cc_X11_menOf G 0 krI (zE 4 (.iload_n 3) 1 :: zE 5 (.aload_n 0) 1 :: zEf 6 (.getfield 7) 3 11 1 149 (2, 42, 0) :: zEk 9 (.iconst 0) 1 w9 :: es) σ [vR 11 0, vI x1, vI x2, vI x3] [] = zev cc_X11_menOf G 0 krI es σ [vR 11 0, vI x1, vI x2, vI x3] [vI w9, vR 42 0, vI x3] := rfl
theorem t_X11_menOf_14 {G : Nat → zH → List zAV → List zAV → Option (zH × Int32)} (es : List zEnt) (σ : zH) (x1 : Int32) (x2 : Int32) (x3 : Int32)   : zev cc_X11_menOf G 0 krI (zE 14 (.iload_n 2) 1 :: zE 15 (.iload_n 1) 1 :: zE 16 (.iload_n 3) 1 :: es) σ [vR 11 0, vI x1, vI x2, vI x3] [] = zev cc_X11_menOf G 0 krI es σ [vR 11 0, vI x1, vI x2, vI x3] [vI x3, vI x1, vI x2] := rfl
theorem t_X11_menOf_23 {G : Nat → zH → List zAV → List zAV → Option (zH × Int32)} (es : List zEnt) (σ : zH) (x1 : Int32) (x3 : Int32) (xs0 : Int32) (y2 : zAV)  : zev cc_X11_menOf G 0 krI (zE 23 (.aload_n 0) 1 :: zEf 24 (.getfield 13) 3 11 2 150 (2, 43, 0) :: zE 27 (.iload_n 3) 1 :: es) σ [vR 11 0, vI x1, y2, vI x3] [vI xs0] = zev cc_X11_menOf G 0 krI es σ [vR 11 0, vI x1, y2, vI x3] [vI x3, vR 43 0, vI xs0] := rfl
theorem t_X11_menOf_32 {G : Nat → zH → List zAV → List zAV → Option (zH × Int32)} (es : List zEnt) (σ : zH) (x1 : Int32) (x3 : Int32) (xs0 : Int32) (y2 : zAV) (w32 : Int32) : zev cc_X11_menOf G 0 krI (zEk 32 (.iconst 0) 1 w32 :: es) σ [vR 11 0, vI x1, y2, vI x3] [vI xs0] = zev cc_X11_menOf G 0 krI es σ [vR 11 0, vI x1, y2, vI x3] [vI w32, vI xs0] := rfl
theorem t_X11_menOf_33 {G : Nat → zH → List zAV → List zAV → Option (zH × Int32)} (es : List zEnt) (σ : zH) (x1 : Int32) (x3 : Int32) (xs0 : Int32) (xs1 : Int32) (y2 : zAV) (w35 : Int32) : zev cc_X11_menOf G 0 krI (zE 33 .iadd 1 :: zE 34 (.istore_n 2) 1 :: zEk 35 (.iinc 3 1) 3 w35 :: es) σ [vR 11 0, vI x1, y2, vI x3] [vI xs1, vI xs0] = zev cc_X11_menOf G 0 krI es σ [vR 11 0, vI x1, vI (xs0 + xs1), vI (x3 + w35)] [] := rfl
theorem t_X11_menOf_41 {G : Nat → zH → List zAV → List zAV → Option (zH × Int32)} (es : List zEnt) (σ : zH) (x2 : Int32) (y0 : zAV) (y1 : zAV) (y3 : zAV)  : zev cc_X11_menOf G 0 krI (zE 41 (.iload_n 2) 1 :: es) σ [y0, y1, vI x2, y3] [] = zev cc_X11_menOf G 0 krI es σ [y0, y1, vI x2, y3] [vI x2] := rfl
noncomputable def j_X11_menOf_33 (c4 : zH → Int32 → Int32 → Int32 → Option (zH × Int32)) (σ : zH) (x1 : Int32) (x3 : Int32) (xs0 : Int32) (xs1 : Int32) : Option (zH × Int32) :=
  c4 σ x1 (xs0 + xs1) (x3 + (1 : Int32))
theorem e_X11_menOf_33 (c4 : zH → Int32 → Int32 → Int32 → Option (zH × Int32)) (σ : zH) (x1 : Int32) (x3 : Int32) (xs0 : Int32) (xs1 : Int32) (y2 : zAV) : j_X11_menOf_33 c4 σ x1 x3 xs0 xs1 = zin cc_X11_menOf (fun t => if t = 4 then some (gl_X11_menOf_4 c4) else none) 0 krI b_X11_menOf 33 σ [vR 11 0, vI x1, y2, vI x3] [vI xs1, vI xs0] := by
  unfold j_X11_menOf_33
  refine Eq.symm ((zin_b (es := q_X11_menOf_33) rfl).trans ?_)
  refine (t_X11_menOf_33 _ _ _ _ _ _ _ _).trans ?_
  refine x_goto.trans ?_
  exact (zrun_c rfl).trans (glr_X11_menOf_4 _ _ _ _ _)
theorem s_X11_menOf_33 {X : zX} (hX : zHX X) {c4 : zH → Int32 → Int32 → Int32 → Option (zH × Int32)} (h4 : ∀ σ L st r, gl_X11_menOf_4 c4 σ L st = some r → zGW X 129 krI 4 σ L st r) : ∀ σ L st r, gl_X11_menOf_33 (j_X11_menOf_33 c4) σ L st = some r → zGW X 129 krI 33 σ L st r := by
  intro σ L st r h
  unfold gl_X11_menOf_33 at h
  split at h
  · exact zin_ok (hy_X11_menOf hX) bk_X11_menOf (fun t f hf => by
    by_cases e4 : t = 4
    · rw [if_pos e4] at hf; subst e4; cases hf; exact h4
    rw [if_neg e4] at hf
    cases hf) ((e_X11_menOf_33 _ _ _ _ _ _ _).symm.trans h)
  · cases h
noncomputable def k_X11_menOf_4  : Nat → zH → Int32 → Int32 → Int32 → Option (zH × Int32)
  | 0, _, _, _, _ => none
  | n + 1, σ, x1, x2, x3 =>
    if x3 < (σ.1 42 0 0) then
      (d_X11_has σ x1 x3).bind fun p1 =>
      if p1.2 = 0 then
        (j_X11_menOf_33 (k_X11_menOf_4 n)) p1.1 x1 x3 x2 (0 : Int32)
      else
        ix x3 12 fun j2 =>
        (j_X11_menOf_33 (k_X11_menOf_4 n)) p1.1 x1 x3 x2 (p1.1.1 43 0 j2)
    else
      some (σ, x2)
theorem e_X11_menOf_4  (n : Nat) (σ : zH) (x1 : Int32) (x2 : Int32) (x3 : Int32)  : k_X11_menOf_4 (n + 1) σ x1 x2 x3 = zin cc_X11_menOf (fun t => if t = 33 then some (gl_X11_menOf_33 (j_X11_menOf_33 (k_X11_menOf_4 n))) else none) 0 krI b_X11_menOf 4 σ [vR 11 0, vI x1, vI x2, vI x3] [] := by
  rw [k_X11_menOf_4]
  refine Eq.symm ((zin_b (es := q_X11_menOf_4) rfl).trans ?_)
  refine (t_X11_menOf_4 _ _ _ _ _ _).trans ?_
  refine ((x_iald (N := 11) rfl rfl).trans (ix_l 0 (by decide +kernel))).trans ?_
  refine x_icmp.trans (pif_ge ?_ ?_)
  · refine (zrun_b (es := q_X11_menOf_41) rfl rfl).trans ?_
    refine (t_X11_menOf_41 _ _ _ _ _ _).trans ?_
    exact x_iret
  · refine (t_X11_menOf_14 _ _ _ _ _).trans ?_
    refine (x_callS rfl rfl rfl rfl).trans ((cl_X11_menOf_X11_has _ _ _).trans ((gr_X11_has _ _ _ _).trans (pbd fun _ => ?_)))
    refine x_if.trans (pif_eq ?_ ?_)
    · refine (zrun_b (es := q_X11_menOf_32) rfl rfl).trans ?_
      refine (t_X11_menOf_32 _ _ _ _ _ _ _).trans ?_
      refine x_cut.trans ?_
      exact (zrun_c rfl).trans (glr_X11_menOf_33 _ _ _ _ _ _ _)
    · refine (t_X11_menOf_23 _ _ _ _ _ _).trans ?_
      refine (x_iald (N := 12) rfl rfl).trans (pix fun _ => ?_)
      refine x_goto.trans ?_
      exact (zrun_c rfl).trans (glr_X11_menOf_33 _ _ _ _ _ _ _)
theorem s_X11_menOf_4 {X : zX} (hX : zHX X)   : ∀ n σ L st r, gl_X11_menOf_4 (k_X11_menOf_4 n) σ L st = some r → zGW X 129 krI 4 σ L st r := by
  intro n
  induction n with
  | zero =>
    intro σ L st r h
    unfold gl_X11_menOf_4 at h
    split at h <;> cases h
  | succ n ih =>
    intro σ L st r h
    unfold gl_X11_menOf_4 at h
    split at h
    · exact zin_ok (hy_X11_menOf hX) bk_X11_menOf (fun t f hf => by
      by_cases e33 : t = 33
      · rw [if_pos e33] at hf; subst e33; cases hf; exact (s_X11_menOf_33 hX ih)
      rw [if_neg e33] at hf
      cases hf) ((e_X11_menOf_4 _ _ _ _ _).symm.trans h)
    · cases h
noncomputable def d_X11_menOf (σ : zH) (xa1 : Int32) : Option (zH × Int32) :=
  (k_X11_menOf_4 zN) σ xa1 (0 : Int32) (0 : Int32)
theorem e_X11_menOf (σ : zH) (xa1 : Int32) : d_X11_menOf σ xa1 = zin cc_X11_menOf (fun t => if t = 4 then some (gl_X11_menOf_4 (k_X11_menOf_4 zN)) else none) 0 krI b_X11_menOf 0 σ [vR 11 0, vI xa1, vU, vU] [] := by
  unfold d_X11_menOf
  refine Eq.symm ((zin_b (es := q_X11_menOf_0) rfl).trans ?_)
  refine (t_X11_menOf_0 _ _ _ _ _ _ _).trans ?_
  refine x_cut.trans ?_
  exact (zrun_c rfl).trans (glr_X11_menOf_4 _ _ _ _ _)
noncomputable def g_X11_menOf {ρ : Type} (σ : zH) (av : List zAV) (q : zH → zAV → Option ρ) : Option ρ := match av with
  | [.inr (.inr (.inl (11, 0))), .inl xa1] => (d_X11_menOf σ xa1).bind fun p => q p.1 (vI p.2)
  | _ => none
theorem gr_X11_menOf {ρ : Type} (σ : zH) (xa1 : Int32) (q : zH → zAV → Option ρ) : g_X11_menOf σ [vR 11 0, vI xa1] q = (d_X11_menOf σ xa1).bind fun p => q p.1 (vI p.2) := rfl
theorem c_X11_menOf {ρ : Type} {X : zX} (hX : zHX X) {σ : zH} {av : List zAV} {q : zH → zAV → Option ρ} {r : ρ} (h : g_X11_menOf σ av q = some r) (hv : ∀ a ∈ av, zval X a) : zcon X 129 σ av q r := by
  unfold g_X11_menOf at h
  split at h
  · exact zcon_I (n := 129) (ml := 4) (rc := 0) (st := 0) (kd := 11) (np := 1) (by decide +kernel) (by decide) ⟨_, _, rfl, rfl⟩ (Nat.le_of_ble_eq_true rfl) hv h (fun y h1 => (zin_ok (hy_X11_menOf hX) bk_X11_menOf (fun t f hf => by
      by_cases e4 : t = 4
      · rw [if_pos e4] at hf; subst e4; cases hf; exact ((fun σ L st r h => s_X11_menOf_4 hX  zN σ L st r h))
      rw [if_neg e4] at hf
      cases hf) ((e_X11_menOf _ _).symm.trans h1)))
  · cases h
/-! SleepWavesModel.hasDuty(I)Z -/
def q_X11_hasDuty_0 : List zEnt := zEk 0 (.iconst 0) 1 0 :: zE 1 (.istore_n 2) 1 :: zEk 2 (.iconst 0) 1 0 :: zE 3 (.istore_n 3) 1 :: [zE 4 .nop 0]
def q_X11_hasDuty_55 : List zEnt := zEa 55 (.ifCond .eq 7) 3 62 :: [zE 58 .nop 0]
def q_X11_hasDuty_52 : List zEnt := zEc 52 (.invokestatic 173) 3 125 3 129 0 :: q_X11_hasDuty_55
def q_X11_hasDuty_51 : List zEnt := zE 51 .i2l 1 :: q_X11_hasDuty_52
def q_X11_hasDuty_50 : List zEnt := zE 50 .iaload 1 :: q_X11_hasDuty_51
def q_X11_hasDuty_44 : List zEnt := zE 44 .i2l 1 :: zE 45 (.aload_n 0) 1 :: zEf 46 (.getfield 37) 3 11 10 158 (2, 51, 0) :: zE 49 (.iload_n 3) 1 :: q_X11_hasDuty_50
def q_X11_hasDuty_43 : List zEnt := zE 43 .iaload 1 :: q_X11_hasDuty_44
def q_X11_hasDuty_37 : List zEnt := zE 37 .i2l 1 :: zE 38 (.aload_n 0) 1 :: zEf 39 (.getfield 34) 3 11 9 157 (2, 50, 0) :: zE 42 (.iload_n 3) 1 :: q_X11_hasDuty_43
def q_X11_hasDuty_36 : List zEnt := zE 36 .irem 1 :: q_X11_hasDuty_37
def q_X11_hasDuty_34 : List zEnt := zEk 34 (.bipush 96) 2 96 :: q_X11_hasDuty_36
def q_X11_hasDuty_33 : List zEnt := zE 33 .iaload 1 :: q_X11_hasDuty_34
def q_X11_hasDuty_28 : List zEnt := zE 28 (.aload_n 0) 1 :: zEf 29 (.getfield 7) 3 11 1 149 (2, 42, 0) :: zEk 32 (.iconst 4) 1 4 :: q_X11_hasDuty_33
def q_X11_hasDuty_25 : List zEnt := zEa 25 (.if_icmp .ne 37) 3 62 :: q_X11_hasDuty_28
def q_X11_hasDuty_24 : List zEnt := zE 24 (.iload_n 1) 1 :: q_X11_hasDuty_25
def q_X11_hasDuty_23 : List zEnt := zE 23 .iaload 1 :: q_X11_hasDuty_24
def q_X11_hasDuty_18 : List zEnt := zE 18 (.aload_n 0) 1 :: zEf 19 (.getfield 31) 3 11 8 156 (2, 49, 0) :: zE 22 (.iload_n 3) 1 :: q_X11_hasDuty_23
def q_X11_hasDuty_15 : List zEnt := zEa 15 (.ifCond .ne 43) 3 58 :: q_X11_hasDuty_18
def q_X11_hasDuty_14 : List zEnt := zE 14 (.iload_n 2) 1 :: q_X11_hasDuty_15
def q_X11_hasDuty_11 : List zEnt := zEa 11 (.if_icmp .ge 59) 3 70 :: q_X11_hasDuty_14
def q_X11_hasDuty_10 : List zEnt := zE 10 .iaload 1 :: q_X11_hasDuty_11
def q_X11_hasDuty_4 : List zEnt := zE 4 (.iload_n 3) 1 :: zE 5 (.aload_n 0) 1 :: zEf 6 (.getfield 7) 3 11 1 149 (2, 42, 0) :: zEk 9 (.iconst 2) 1 2 :: q_X11_hasDuty_10
def q_X11_hasDuty_59 : List zEnt := zEa 59 (.goto 4) 3 63 :: []
def q_X11_hasDuty_58 : List zEnt := zEk 58 (.iconst 1) 1 1 :: q_X11_hasDuty_59
def q_X11_hasDuty_62 : List zEnt := zEk 62 (.iconst 0) 1 0 :: [zE 63 .nop 0]
def q_X11_hasDuty_67 : List zEnt := zEa 67 (.goto (-63)) 3 4 :: []
def q_X11_hasDuty_63 : List zEnt := zE 63 (.istore_n 2) 1 :: zEk 64 (.iinc 3 1) 3 1 :: q_X11_hasDuty_67
def q_X11_hasDuty_71 : List zEnt := zE 71 .ireturn 1 :: []
def q_X11_hasDuty_70 : List zEnt := zE 70 (.iload_n 2) 1 :: q_X11_hasDuty_71
def b_X11_hasDuty : List (Nat × List zEnt) := [(0, q_X11_hasDuty_0), (4, q_X11_hasDuty_4), (58, q_X11_hasDuty_58), (62, q_X11_hasDuty_62), (63, q_X11_hasDuty_63), (70, q_X11_hasDuty_70)]
theorem bk_X11_hasDuty : zchB 130 b_X11_hasDuty = true := by decide +kernel
noncomputable def cc_X11_hasDuty {ρ : Type} : Nat → zH → List zAV → (zH → zAV → Option ρ) → Option ρ := fun n σ av q => if n = 125 then g_X11_in σ av q else none
theorem cs_X11_hasDuty {ρ : Type} {X : zX} (hX : zHX X) : zCS X (cc_X11_hasDuty (ρ := ρ)) := by
  intro n σ av q r h hv
  unfold cc_X11_hasDuty at h
  by_cases e_X11_in : n = 125
  · rw [if_pos e_X11_in] at h
    subst e_X11_in
    exact c_X11_in hX h hv
  rw [if_neg e_X11_in] at h
  cases h
theorem cl_X11_hasDuty_X11_in {ρ : Type} (σ : zH) (av : List zAV) (q : zH → zAV → Option ρ) : cc_X11_hasDuty 125 σ av q = g_X11_in σ av q := rfl
theorem hy_X11_hasDuty {ρ : Type} {X : zX} (hX : zHX X) : zHY X 130 (cc_X11_hasDuty (ρ := ρ)) := zHX.hY hX (cs_X11_hasDuty hX) (zmok_all 130 (by decide))
def gl_X11_hasDuty_4 {ρ : Type} (f : zH → Int32 → Int32 → Int32 → Option ρ) (σ : zH) (L st : List zAV) : Option ρ := match L, st with
  | [.inr (.inr (.inl (11, 0))), .inl x1, .inl x2, .inl x3], [] => f σ x1 x2 x3
  | _, _ => none
def gl_X11_hasDuty_58 {ρ : Type} (f : zH → Int32 → Int32 → Option ρ) (σ : zH) (L st : List zAV) : Option ρ := match L, st with
  | [.inr (.inr (.inl (11, 0))), .inl x1, _, .inl x3], [] => f σ x1 x3
  | _, _ => none
def gl_X11_hasDuty_62 {ρ : Type} (f : zH → Int32 → Int32 → Option ρ) (σ : zH) (L st : List zAV) : Option ρ := match L, st with
  | [.inr (.inr (.inl (11, 0))), .inl x1, _, .inl x3], [] => f σ x1 x3
  | _, _ => none
def gl_X11_hasDuty_63 {ρ : Type} (f : zH → Int32 → Int32 → Int32 → Option ρ) (σ : zH) (L st : List zAV) : Option ρ := match L, st with
  | [.inr (.inr (.inl (11, 0))), .inl x1, _, .inl x3], [.inl xs0] => f σ x1 x3 xs0
  | _, _ => none
theorem glr_X11_hasDuty_4 {ρ : Type} (f : zH → Int32 → Int32 → Int32 → Option ρ) (σ : zH) (x1 : Int32) (x2 : Int32) (x3 : Int32)  : gl_X11_hasDuty_4 f σ [vR 11 0, vI x1, vI x2, vI x3] [] = f σ x1 x2 x3 := rfl
theorem glr_X11_hasDuty_58 {ρ : Type} (f : zH → Int32 → Int32 → Option ρ) (σ : zH) (x1 : Int32) (x3 : Int32) (y2 : zAV) : gl_X11_hasDuty_58 f σ [vR 11 0, vI x1, y2, vI x3] [] = f σ x1 x3 := rfl
theorem glr_X11_hasDuty_62 {ρ : Type} (f : zH → Int32 → Int32 → Option ρ) (σ : zH) (x1 : Int32) (x3 : Int32) (y2 : zAV) : gl_X11_hasDuty_62 f σ [vR 11 0, vI x1, y2, vI x3] [] = f σ x1 x3 := rfl
theorem glr_X11_hasDuty_63 {ρ : Type} (f : zH → Int32 → Int32 → Int32 → Option ρ) (σ : zH) (x1 : Int32) (x3 : Int32) (xs0 : Int32) (y2 : zAV) : gl_X11_hasDuty_63 f σ [vR 11 0, vI x1, y2, vI x3] [vI xs0] = f σ x1 x3 xs0 := rfl
theorem t_X11_hasDuty_0 {G : Nat → zH → List zAV → List zAV → Option (zH × Int32)} (es : List zEnt) (σ : zH) (x1 : Int32) (y2 : zAV) (y3 : zAV) (w0 : Int32) (w2 : Int32) : zev cc_X11_hasDuty G 1 krI (zEk 0 (.iconst 0) 1 w0 :: zE 1 (.istore_n 2) 1 :: zEk 2 (.iconst 0) 1 w2 :: zE 3 (.istore_n 3) 1 :: es) σ [vR 11 0, vI x1, y2, y3] [] = zev cc_X11_hasDuty G 1 krI es σ [vR 11 0, vI x1, vI w0, vI w2] [] := rfl
theorem t_X11_hasDuty_4 {G : Nat → zH → List zAV → List zAV → Option (zH × Int32)} (es : List zEnt) (σ : zH) (x1 : Int32) (x2 : Int32) (x3 : Int32)  (w9 : Int32) : zev cc_X11_hasDuty G 1 krI (zE 4 (.iload_n 3) 1 :: zE 5 (.aload_n 0) 1 :: zEf 6 (.getfield 7) 3 11 1 149 (2, 42, 0) :: zEk 9 (.iconst 2) 1 w9 :: es) σ [vR 11 0, vI x1, vI x2, vI x3] [] = zev cc_X11_hasDuty G 1 krI es σ [vR 11 0, vI x1, vI x2, vI x3] [vI w9, vR 42 0, vI x3] := rfl
theorem t_X11_hasDuty_14 {G : Nat → zH → List zAV → List zAV → Option (zH × Int32)} (es : List zEnt) (σ : zH) (x1 : Int32) (x2 : Int32) (x3 : Int32)   : zev cc_X11_hasDuty G 1 krI (zE 14 (.iload_n 2) 1 :: es) σ [vR 11 0, vI x1, vI x2, vI x3] [] = zev cc_X11_hasDuty G 1 krI es σ [vR 11 0, vI x1, vI x2, vI x3] [vI x2] := rfl
theorem t_X11_hasDuty_18 {G : Nat → zH → List zAV → List zAV → Option (zH × Int32)} (es : List zEnt) (σ : zH) (x1 : Int32) (x3 : Int32) (y2 : zAV)  : zev cc_X11_hasDuty G 1 krI (zE 18 (.aload_n 0) 1 :: zEf 19 (.getfield 31) 3 11 8 156 (2, 49, 0) :: zE 22 (.iload_n 3) 1 :: es) σ [vR 11 0, vI x1, y2, vI x3] [] = zev cc_X11_hasDuty G 1 krI es σ [vR 11 0, vI x1, y2, vI x3] [vI x3, vR 49 0] := rfl
theorem t_X11_hasDuty_24 {G : Nat → zH → List zAV → List zAV → Option (zH × Int32)} (es : List zEnt) (σ : zH) (x1 : Int32) (x3 : Int32) (xs0 : Int32) (y2 : zAV)  : zev cc_X11_hasDuty G 1 krI (zE 24 (.iload_n 1) 1 :: es) σ [vR 11 0, vI x1, y2, vI x3] [vI xs0] = zev cc_X11_hasDuty G 1 krI es σ [vR 11 0, vI x1, y2, vI x3] [vI x1, vI xs0] := rfl
theorem t_X11_hasDuty_28 {G : Nat → zH → List zAV → List zAV → Option (zH × Int32)} (es : List zEnt) (σ : zH) (x1 : Int32) (x3 : Int32) (y2 : zAV) (w32 : Int32) : zev cc_X11_hasDuty G 1 krI (zE 28 (.aload_n 0) 1 :: zEf 29 (.getfield 7) 3 11 1 149 (2, 42, 0) :: zEk 32 (.iconst 4) 1 w32 :: es) σ [vR 11 0, vI x1, y2, vI x3] [] = zev cc_X11_hasDuty G 1 krI es σ [vR 11 0, vI x1, y2, vI x3] [vI w32, vR 42 0] := rfl
theorem t_X11_hasDuty_34 {G : Nat → zH → List zAV → List zAV → Option (zH × Int32)} (es : List zEnt) (σ : zH) (x1 : Int32) (x3 : Int32) (xs0 : Int32) (y2 : zAV) (w34 : Int32) : zev cc_X11_hasDuty G 1 krI (zEk 34 (.bipush 96) 2 w34 :: es) σ [vR 11 0, vI x1, y2, vI x3] [vI xs0] = zev cc_X11_hasDuty G 1 krI es σ [vR 11 0, vI x1, y2, vI x3] [vI w34, vI xs0] := rfl
theorem t_X11_hasDuty_37 {G : Nat → zH → List zAV → List zAV → Option (zH × Int32)} (es : List zEnt) (σ : zH) (x1 : Int32) (x3 : Int32) (xs0 : Int32) (y2 : zAV)  : zev cc_X11_hasDuty G 1 krI (zE 37 .i2l 1 :: zE 38 (.aload_n 0) 1 :: zEf 39 (.getfield 34) 3 11 9 157 (2, 50, 0) :: zE 42 (.iload_n 3) 1 :: es) σ [vR 11 0, vI x1, y2, vI x3] [vI xs0] = zev cc_X11_hasDuty G 1 krI es σ [vR 11 0, vI x1, y2, vI x3] [vI x3, vR 50 0, vL xs0.toInt64] := rfl
theorem t_X11_hasDuty_44 {G : Nat → zH → List zAV → List zAV → Option (zH × Int32)} (es : List zEnt) (σ : zH) (x1 : Int32) (x3 : Int32) (zs0 : Int64) (xs1 : Int32) (y2 : zAV)  : zev cc_X11_hasDuty G 1 krI (zE 44 .i2l 1 :: zE 45 (.aload_n 0) 1 :: zEf 46 (.getfield 37) 3 11 10 158 (2, 51, 0) :: zE 49 (.iload_n 3) 1 :: es) σ [vR 11 0, vI x1, y2, vI x3] [vI xs1, vL zs0] = zev cc_X11_hasDuty G 1 krI es σ [vR 11 0, vI x1, y2, vI x3] [vI x3, vR 51 0, vL xs1.toInt64, vL zs0] := rfl
theorem t_X11_hasDuty_51 {G : Nat → zH → List zAV → List zAV → Option (zH × Int32)} (es : List zEnt) (σ : zH) (x1 : Int32) (x3 : Int32) (zs0 : Int64) (zs1 : Int64) (xs2 : Int32) (y2 : zAV)  : zev cc_X11_hasDuty G 1 krI (zE 51 .i2l 1 :: es) σ [vR 11 0, vI x1, y2, vI x3] [vI xs2, vL zs1, vL zs0] = zev cc_X11_hasDuty G 1 krI es σ [vR 11 0, vI x1, y2, vI x3] [vL xs2.toInt64, vL zs1, vL zs0] := rfl
theorem t_X11_hasDuty_58 {G : Nat → zH → List zAV → List zAV → Option (zH × Int32)} (es : List zEnt) (σ : zH) (x1 : Int32) (x3 : Int32) (y2 : zAV) (w58 : Int32) : zev cc_X11_hasDuty G 1 krI (zEk 58 (.iconst 1) 1 w58 :: es) σ [vR 11 0, vI x1, y2, vI x3] [] = zev cc_X11_hasDuty G 1 krI es σ [vR 11 0, vI x1, y2, vI x3] [vI w58] := rfl
theorem t_X11_hasDuty_62 {G : Nat → zH → List zAV → List zAV → Option (zH × Int32)} (es : List zEnt) (σ : zH) (x1 : Int32) (x3 : Int32) (y2 : zAV) (w62 : Int32) : zev cc_X11_hasDuty G 1 krI (zEk 62 (.iconst 0) 1 w62 :: es) σ [vR 11 0, vI x1, y2, vI x3] [] = zev cc_X11_hasDuty G 1 krI es σ [vR 11 0, vI x1, y2, vI x3] [vI w62] := rfl
theorem t_X11_hasDuty_63 {G : Nat → zH → List zAV → List zAV → Option (zH × Int32)} (es : List zEnt) (σ : zH) (x1 : Int32) (x3 : Int32) (xs0 : Int32) (y2 : zAV) (w64 : Int32) : zev cc_X11_hasDuty G 1 krI (zE 63 (.istore_n 2) 1 :: zEk 64 (.iinc 3 1) 3 w64 :: es) σ [vR 11 0, vI x1, y2, vI x3] [vI xs0] = zev cc_X11_hasDuty G 1 krI es σ [vR 11 0, vI x1, vI xs0, vI (x3 + w64)] [] := rfl
theorem t_X11_hasDuty_70 {G : Nat → zH → List zAV → List zAV → Option (zH × Int32)} (es : List zEnt) (σ : zH) (x2 : Int32) (y0 : zAV) (y1 : zAV) (y3 : zAV)  : zev cc_X11_hasDuty G 1 krI (zE 70 (.iload_n 2) 1 :: es) σ [y0, y1, vI x2, y3] [] = zev cc_X11_hasDuty G 1 krI es σ [y0, y1, vI x2, y3] [vI x2] := rfl
noncomputable def j_X11_hasDuty_63 (c4 : zH → Int32 → Int32 → Int32 → Option (zH × Int32)) (σ : zH) (x1 : Int32) (x3 : Int32) (xs0 : Int32) : Option (zH × Int32) :=
  c4 σ x1 xs0 (x3 + (1 : Int32))
theorem e_X11_hasDuty_63 (c4 : zH → Int32 → Int32 → Int32 → Option (zH × Int32)) (σ : zH) (x1 : Int32) (x3 : Int32) (xs0 : Int32) (y2 : zAV) : j_X11_hasDuty_63 c4 σ x1 x3 xs0 = zin cc_X11_hasDuty (fun t => if t = 4 then some (gl_X11_hasDuty_4 c4) else none) 1 krI b_X11_hasDuty 63 σ [vR 11 0, vI x1, y2, vI x3] [vI xs0] := by
  unfold j_X11_hasDuty_63
  refine Eq.symm ((zin_b (es := q_X11_hasDuty_63) rfl).trans ?_)
  refine (t_X11_hasDuty_63 _ _ _ _ _ _ _).trans ?_
  refine x_goto.trans ?_
  exact (zrun_c rfl).trans (glr_X11_hasDuty_4 _ _ _ _ _)
theorem s_X11_hasDuty_63 {X : zX} (hX : zHX X) {c4 : zH → Int32 → Int32 → Int32 → Option (zH × Int32)} (h4 : ∀ σ L st r, gl_X11_hasDuty_4 c4 σ L st = some r → zGW X 130 krI 4 σ L st r) : ∀ σ L st r, gl_X11_hasDuty_63 (j_X11_hasDuty_63 c4) σ L st = some r → zGW X 130 krI 63 σ L st r := by
  intro σ L st r h
  unfold gl_X11_hasDuty_63 at h
  split at h
  · exact zin_ok (hy_X11_hasDuty hX) bk_X11_hasDuty (fun t f hf => by
    by_cases e4 : t = 4
    · rw [if_pos e4] at hf; subst e4; cases hf; exact h4
    rw [if_neg e4] at hf
    cases hf) ((e_X11_hasDuty_63 _ _ _ _ _ _).symm.trans h)
  · cases h
noncomputable def j_X11_hasDuty_58 (c4 : zH → Int32 → Int32 → Int32 → Option (zH × Int32)) (σ : zH) (x1 : Int32) (x3 : Int32) : Option (zH × Int32) :=
  (j_X11_hasDuty_63 c4) σ x1 x3 (1 : Int32)
theorem e_X11_hasDuty_58 (c4 : zH → Int32 → Int32 → Int32 → Option (zH × Int32)) (σ : zH) (x1 : Int32) (x3 : Int32) (y2 : zAV) : j_X11_hasDuty_58 c4 σ x1 x3 = zin cc_X11_hasDuty (fun t => if t = 63 then some (gl_X11_hasDuty_63 (j_X11_hasDuty_63 c4)) else none) 1 krI b_X11_hasDuty 58 σ [vR 11 0, vI x1, y2, vI x3] [] := by
  unfold j_X11_hasDuty_58
  refine Eq.symm ((zin_b (es := q_X11_hasDuty_58) rfl).trans ?_)
  refine (t_X11_hasDuty_58 _ _ _ _ _ _).trans ?_
  refine x_goto.trans ?_
  exact (zrun_c rfl).trans (glr_X11_hasDuty_63 _ _ _ _ _ _)
theorem s_X11_hasDuty_58 {X : zX} (hX : zHX X) {c4 : zH → Int32 → Int32 → Int32 → Option (zH × Int32)} (h4 : ∀ σ L st r, gl_X11_hasDuty_4 c4 σ L st = some r → zGW X 130 krI 4 σ L st r) : ∀ σ L st r, gl_X11_hasDuty_58 (j_X11_hasDuty_58 c4) σ L st = some r → zGW X 130 krI 58 σ L st r := by
  intro σ L st r h
  unfold gl_X11_hasDuty_58 at h
  split at h
  · exact zin_ok (hy_X11_hasDuty hX) bk_X11_hasDuty (fun t f hf => by
    by_cases e63 : t = 63
    · rw [if_pos e63] at hf; subst e63; cases hf; exact (s_X11_hasDuty_63 hX h4)
    rw [if_neg e63] at hf
    cases hf) ((e_X11_hasDuty_58 _ _ _ _ _).symm.trans h)
  · cases h
noncomputable def j_X11_hasDuty_62 (c4 : zH → Int32 → Int32 → Int32 → Option (zH × Int32)) (σ : zH) (x1 : Int32) (x3 : Int32) : Option (zH × Int32) :=
  (j_X11_hasDuty_63 c4) σ x1 x3 (0 : Int32)
theorem e_X11_hasDuty_62 (c4 : zH → Int32 → Int32 → Int32 → Option (zH × Int32)) (σ : zH) (x1 : Int32) (x3 : Int32) (y2 : zAV) : j_X11_hasDuty_62 c4 σ x1 x3 = zin cc_X11_hasDuty (fun t => if t = 63 then some (gl_X11_hasDuty_63 (j_X11_hasDuty_63 c4)) else none) 1 krI b_X11_hasDuty 62 σ [vR 11 0, vI x1, y2, vI x3] [] := by
  unfold j_X11_hasDuty_62
  refine Eq.symm ((zin_b (es := q_X11_hasDuty_62) rfl).trans ?_)
  refine (t_X11_hasDuty_62 _ _ _ _ _ _).trans ?_
  refine x_cut.trans ?_
  exact (zrun_c rfl).trans (glr_X11_hasDuty_63 _ _ _ _ _ _)
theorem s_X11_hasDuty_62 {X : zX} (hX : zHX X) {c4 : zH → Int32 → Int32 → Int32 → Option (zH × Int32)} (h4 : ∀ σ L st r, gl_X11_hasDuty_4 c4 σ L st = some r → zGW X 130 krI 4 σ L st r) : ∀ σ L st r, gl_X11_hasDuty_62 (j_X11_hasDuty_62 c4) σ L st = some r → zGW X 130 krI 62 σ L st r := by
  intro σ L st r h
  unfold gl_X11_hasDuty_62 at h
  split at h
  · exact zin_ok (hy_X11_hasDuty hX) bk_X11_hasDuty (fun t f hf => by
    by_cases e63 : t = 63
    · rw [if_pos e63] at hf; subst e63; cases hf; exact (s_X11_hasDuty_63 hX h4)
    rw [if_neg e63] at hf
    cases hf) ((e_X11_hasDuty_62 _ _ _ _ _).symm.trans h)
  · cases h
noncomputable def k_X11_hasDuty_4  : Nat → zH → Int32 → Int32 → Int32 → Option (zH × Int32)
  | 0, _, _, _, _ => none
  | n + 1, σ, x1, x2, x3 =>
    if x3 < (σ.1 42 0 2) then
      if x2 = 0 then
        ix x3 8 fun j1 =>
        if (σ.1 49 0 j1) = x1 then
          ix x3 8 fun j2 =>
          ix x3 8 fun j3 =>
          (d_X11_in σ (((σ.1 42 0 4) - (σ.1 42 0 4) / (96 : Int32) * (96 : Int32)).toInt64) ((σ.1 50 0 j2).toInt64) ((σ.1 51 0 j3).toInt64)).bind fun p4 =>
          if p4.2 = 0 then
            (j_X11_hasDuty_62 (k_X11_hasDuty_4 n)) p4.1 x1 x3
          else
            (j_X11_hasDuty_58 (k_X11_hasDuty_4 n)) p4.1 x1 x3
        else
          (j_X11_hasDuty_62 (k_X11_hasDuty_4 n)) σ x1 x3
      else
        (j_X11_hasDuty_58 (k_X11_hasDuty_4 n)) σ x1 x3
    else
      tv x2 <| some (σ, x2)
theorem e_X11_hasDuty_4  (n : Nat) (σ : zH) (x1 : Int32) (x2 : Int32) (x3 : Int32)  : k_X11_hasDuty_4 (n + 1) σ x1 x2 x3 = zin cc_X11_hasDuty (fun t => if t = 58 then some (gl_X11_hasDuty_58 (j_X11_hasDuty_58 (k_X11_hasDuty_4 n))) else if t = 62 then some (gl_X11_hasDuty_62 (j_X11_hasDuty_62 (k_X11_hasDuty_4 n))) else none) 1 krI b_X11_hasDuty 4 σ [vR 11 0, vI x1, vI x2, vI x3] [] := by
  rw [k_X11_hasDuty_4]
  refine Eq.symm ((zin_b (es := q_X11_hasDuty_4) rfl).trans ?_)
  refine (t_X11_hasDuty_4 _ _ _ _ _ _).trans ?_
  refine ((x_iald (N := 11) rfl rfl).trans (ix_l 2 (by decide +kernel))).trans ?_
  refine x_icmp.trans (pif_ge ?_ ?_)
  · refine (zrun_b (es := q_X11_hasDuty_70) rfl rfl).trans ?_
    refine (t_X11_hasDuty_70 _ _ _ _ _ _).trans ?_
    exact x_zret
  · refine (t_X11_hasDuty_14 _ _ _ _ _).trans ?_
    refine x_if.trans (pif_ne ?_ ?_)
    · exact (zrun_c rfl).trans (glr_X11_hasDuty_58 _ _ _ _ _)
    · refine (t_X11_hasDuty_18 _ _ _ _ _).trans ?_
      refine (x_iald (N := 8) rfl rfl).trans (pix fun _ => ?_)
      refine (t_X11_hasDuty_24 _ _ _ _ _ _).trans ?_
      refine x_icmp.trans (pif_ne ?_ ?_)
      · exact (zrun_c rfl).trans (glr_X11_hasDuty_62 _ _ _ _ _)
      · refine (t_X11_hasDuty_28 _ _ _ _ _ _).trans ?_
        refine ((x_iald (N := 11) rfl rfl).trans (ix_l 4 (by decide +kernel))).trans ?_
        refine (t_X11_hasDuty_34 _ _ _ _ _ _ _).trans ?_
        refine (x_irem.trans (nz_l (by decide +kernel))).trans ?_
        refine (t_X11_hasDuty_37 _ _ _ _ _ _).trans ?_
        refine (x_iald (N := 8) rfl rfl).trans (pix fun _ => ?_)
        refine (t_X11_hasDuty_44 _ _ _ _ _ _ _).trans ?_
        refine (x_iald (N := 8) rfl rfl).trans (pix fun _ => ?_)
        refine (t_X11_hasDuty_51 _ _ _ _ _ _ _ _).trans ?_
        refine (x_callS rfl rfl rfl rfl).trans ((cl_X11_hasDuty_X11_in _ _ _).trans ((gr_X11_in _ _ _ _ _).trans (pbd fun _ => ?_)))
        refine x_if.trans (pif_eq ?_ ?_)
        · exact (zrun_c rfl).trans (glr_X11_hasDuty_62 _ _ _ _ _)
        · refine x_cut.trans ?_
          exact (zrun_c rfl).trans (glr_X11_hasDuty_58 _ _ _ _ _)
theorem s_X11_hasDuty_4 {X : zX} (hX : zHX X)   : ∀ n σ L st r, gl_X11_hasDuty_4 (k_X11_hasDuty_4 n) σ L st = some r → zGW X 130 krI 4 σ L st r := by
  intro n
  induction n with
  | zero =>
    intro σ L st r h
    unfold gl_X11_hasDuty_4 at h
    split at h <;> cases h
  | succ n ih =>
    intro σ L st r h
    unfold gl_X11_hasDuty_4 at h
    split at h
    · exact zin_ok (hy_X11_hasDuty hX) bk_X11_hasDuty (fun t f hf => by
      by_cases e58 : t = 58
      · rw [if_pos e58] at hf; subst e58; cases hf; exact (s_X11_hasDuty_58 hX ih)
      rw [if_neg e58] at hf
      by_cases e62 : t = 62
      · rw [if_pos e62] at hf; subst e62; cases hf; exact (s_X11_hasDuty_62 hX ih)
      rw [if_neg e62] at hf
      cases hf) ((e_X11_hasDuty_4 _ _ _ _ _).symm.trans h)
    · cases h
noncomputable def d_X11_hasDuty (σ : zH) (xa1 : Int32) : Option (zH × Int32) :=
  (k_X11_hasDuty_4 zN) σ xa1 (0 : Int32) (0 : Int32)
theorem e_X11_hasDuty (σ : zH) (xa1 : Int32) : d_X11_hasDuty σ xa1 = zin cc_X11_hasDuty (fun t => if t = 4 then some (gl_X11_hasDuty_4 (k_X11_hasDuty_4 zN)) else none) 1 krI b_X11_hasDuty 0 σ [vR 11 0, vI xa1, vU, vU] [] := by
  unfold d_X11_hasDuty
  refine Eq.symm ((zin_b (es := q_X11_hasDuty_0) rfl).trans ?_)
  refine (t_X11_hasDuty_0 _ _ _ _ _ _ _).trans ?_
  refine x_cut.trans ?_
  exact (zrun_c rfl).trans (glr_X11_hasDuty_4 _ _ _ _ _)
noncomputable def g_X11_hasDuty {ρ : Type} (σ : zH) (av : List zAV) (q : zH → zAV → Option ρ) : Option ρ := match av with
  | [.inr (.inr (.inl (11, 0))), .inl xa1] => (d_X11_hasDuty σ xa1).bind fun p => q p.1 (vI p.2)
  | _ => none
theorem gr_X11_hasDuty {ρ : Type} (σ : zH) (xa1 : Int32) (q : zH → zAV → Option ρ) : g_X11_hasDuty σ [vR 11 0, vI xa1] q = (d_X11_hasDuty σ xa1).bind fun p => q p.1 (vI p.2) := rfl
theorem c_X11_hasDuty {ρ : Type} {X : zX} (hX : zHX X) {σ : zH} {av : List zAV} {q : zH → zAV → Option ρ} {r : ρ} (h : g_X11_hasDuty σ av q = some r) (hv : ∀ a ∈ av, zval X a) : zcon X 130 σ av q r := by
  unfold g_X11_hasDuty at h
  split at h
  · exact zcon_I (n := 130) (ml := 4) (rc := 1) (st := 0) (kd := 11) (np := 1) (by decide +kernel) (by decide) ⟨_, _, rfl, rfl⟩ (Nat.le_of_ble_eq_true rfl) hv h (fun y h1 => (zin_ok (hy_X11_hasDuty hX) bk_X11_hasDuty (fun t f hf => by
      by_cases e4 : t = 4
      · rw [if_pos e4] at hf; subst e4; cases hf; exact ((fun σ L st r h => s_X11_hasDuty_4 hX  zN σ L st r h))
      rw [if_neg e4] at hf
      cases hf) ((e_X11_hasDuty _ _).symm.trans h1)))
  · cases h
/-! SleepWavesModel.toneNow()I -/
def q_X11_toneNow_0 : List zEnt := zEk 0 (.iconst 0) 1 0 :: zE 1 (.istore_n 1) 1 :: [zE 2 .nop 0]
def q_X11_toneNow_44 : List zEnt := zE 44 .ireturn 1 :: []
def q_X11_toneNow_43 : List zEnt := zE 43 .iaload 1 :: q_X11_toneNow_44
def q_X11_toneNow_38 : List zEnt := zE 38 (.aload_n 0) 1 :: zEf 39 (.getfield 28) 3 11 7 155 (2, 48, 0) :: zE 42 (.iload_n 1) 1 :: q_X11_toneNow_43
def q_X11_toneNow_35 : List zEnt := zEa 35 (.if_icmp .ne 10) 3 45 :: q_X11_toneNow_38
def q_X11_toneNow_34 : List zEnt := zE 34 .irem 1 :: q_X11_toneNow_35
def q_X11_toneNow_32 : List zEnt := zEk 32 (.bipush 96) 2 96 :: q_X11_toneNow_34
def q_X11_toneNow_31 : List zEnt := zE 31 .iaload 1 :: q_X11_toneNow_32
def q_X11_toneNow_26 : List zEnt := zE 26 (.aload_n 0) 1 :: zEf 27 (.getfield 7) 3 11 1 149 (2, 42, 0) :: zEk 30 (.iconst 4) 1 4 :: q_X11_toneNow_31
def q_X11_toneNow_25 : List zEnt := zE 25 .iaload 1 :: q_X11_toneNow_26
def q_X11_toneNow_20 : List zEnt := zE 20 (.aload_n 0) 1 :: zEf 21 (.getfield 25) 3 11 6 154 (2, 47, 0) :: zE 24 (.iload_n 1) 1 :: q_X11_toneNow_25
def q_X11_toneNow_17 : List zEnt := zEa 17 (.if_icmp .eq 28) 3 45 :: q_X11_toneNow_20
def q_X11_toneNow_12 : List zEnt := zE 12 (.iload_n 1) 1 :: zE 13 (.aload_n 0) 1 :: zEf 14 (.getfield 94) 3 11 29 177 (0, 0, 0) :: q_X11_toneNow_17
def q_X11_toneNow_9 : List zEnt := zEa 9 (.if_icmp .ge 42) 3 51 :: q_X11_toneNow_12
def q_X11_toneNow_8 : List zEnt := zE 8 .iaload 1 :: q_X11_toneNow_9
def q_X11_toneNow_2 : List zEnt := zE 2 (.iload_n 1) 1 :: zE 3 (.aload_n 0) 1 :: zEf 4 (.getfield 7) 3 11 1 149 (2, 42, 0) :: zEk 7 (.iconst 1) 1 1 :: q_X11_toneNow_8
def q_X11_toneNow_48 : List zEnt := zEa 48 (.goto (-46)) 3 2 :: []
def q_X11_toneNow_45 : List zEnt := zEk 45 (.iinc 1 1) 3 1 :: q_X11_toneNow_48
def q_X11_toneNow_52 : List zEnt := zE 52 .ireturn 1 :: []
def q_X11_toneNow_51 : List zEnt := zEk 51 (.iconst 0) 1 0 :: q_X11_toneNow_52
def b_X11_toneNow : List (Nat × List zEnt) := [(0, q_X11_toneNow_0), (2, q_X11_toneNow_2), (45, q_X11_toneNow_45), (51, q_X11_toneNow_51)]
theorem bk_X11_toneNow : zchB 131 b_X11_toneNow = true := by decide +kernel
theorem hy_X11_toneNow {ρ : Type} {X : zX} (hX : zHX X) : zHY X 131 (zc0 (ρ := ρ)) := zHX.hY hX (zc0_ok X) (zmok_all 131 (by decide))
def gl_X11_toneNow_2 {ρ : Type} (f : zH → Int32 → Option ρ) (σ : zH) (L st : List zAV) : Option ρ := match L, st with
  | [.inr (.inr (.inl (11, 0))), .inl x1], [] => f σ x1
  | _, _ => none
theorem glr_X11_toneNow_2 {ρ : Type} (f : zH → Int32 → Option ρ) (σ : zH) (x1 : Int32)  : gl_X11_toneNow_2 f σ [vR 11 0, vI x1] [] = f σ x1 := rfl
theorem t_X11_toneNow_0 {G : Nat → zH → List zAV → List zAV → Option (zH × Int32)} (es : List zEnt) (σ : zH)  (y1 : zAV) (w0 : Int32) : zev zc0 G 0 krI (zEk 0 (.iconst 0) 1 w0 :: zE 1 (.istore_n 1) 1 :: es) σ [vR 11 0, y1] [] = zev zc0 G 0 krI es σ [vR 11 0, vI w0] [] := rfl
theorem t_X11_toneNow_2 {G : Nat → zH → List zAV → List zAV → Option (zH × Int32)} (es : List zEnt) (σ : zH) (x1 : Int32)  (w7 : Int32) : zev zc0 G 0 krI (zE 2 (.iload_n 1) 1 :: zE 3 (.aload_n 0) 1 :: zEf 4 (.getfield 7) 3 11 1 149 (2, 42, 0) :: zEk 7 (.iconst 1) 1 w7 :: es) σ [vR 11 0, vI x1] [] = zev zc0 G 0 krI es σ [vR 11 0, vI x1] [vI w7, vR 42 0, vI x1] := rfl
theorem t_X11_toneNow_12 {G : Nat → zH → List zAV → List zAV → Option (zH × Int32)} (es : List zEnt) (σ : zH) (x1 : Int32)   : zev zc0 G 0 krI (zE 12 (.iload_n 1) 1 :: zE 13 (.aload_n 0) 1 :: zEf 14 (.getfield 94) 3 11 29 177 (0, 0, 0) :: es) σ [vR 11 0, vI x1] [] = zev zc0 G 0 krI es σ [vR 11 0, vI x1] [vI (σ.1 11 0 29), vI x1] := rfl
theorem t_X11_toneNow_20 {G : Nat → zH → List zAV → List zAV → Option (zH × Int32)} (es : List zEnt) (σ : zH) (x1 : Int32)   : zev zc0 G 0 krI (zE 20 (.aload_n 0) 1 :: zEf 21 (.getfield 25) 3 11 6 154 (2, 47, 0) :: zE 24 (.iload_n 1) 1 :: es) σ [vR 11 0, vI x1] [] = zev zc0 G 0 krI es σ [vR 11 0, vI x1] [vI x1, vR 47 0] := rfl
theorem t_X11_toneNow_26 {G : Nat → zH → List zAV → List zAV → Option (zH × Int32)} (es : List zEnt) (σ : zH) (x1 : Int32) (xs0 : Int32)  (w30 : Int32) : zev zc0 G 0 krI (zE 26 (.aload_n 0) 1 :: zEf 27 (.getfield 7) 3 11 1 149 (2, 42, 0) :: zEk 30 (.iconst 4) 1 w30 :: es) σ [vR 11 0, vI x1] [vI xs0] = zev zc0 G 0 krI es σ [vR 11 0, vI x1] [vI w30, vR 42 0, vI xs0] := rfl
theorem t_X11_toneNow_32 {G : Nat → zH → List zAV → List zAV → Option (zH × Int32)} (es : List zEnt) (σ : zH) (x1 : Int32) (xs0 : Int32) (xs1 : Int32)  (w32 : Int32) : zev zc0 G 0 krI (zEk 32 (.bipush 96) 2 w32 :: es) σ [vR 11 0, vI x1] [vI xs1, vI xs0] = zev zc0 G 0 krI es σ [vR 11 0, vI x1] [vI w32, vI xs1, vI xs0] := rfl
theorem t_X11_toneNow_38 {G : Nat → zH → List zAV → List zAV → Option (zH × Int32)} (es : List zEnt) (σ : zH) (x1 : Int32)   : zev zc0 G 0 krI (zE 38 (.aload_n 0) 1 :: zEf 39 (.getfield 28) 3 11 7 155 (2, 48, 0) :: zE 42 (.iload_n 1) 1 :: es) σ [vR 11 0, vI x1] [] = zev zc0 G 0 krI es σ [vR 11 0, vI x1] [vI x1, vR 48 0] := rfl
theorem t_X11_toneNow_45 {G : Nat → zH → List zAV → List zAV → Option (zH × Int32)} (es : List zEnt) (σ : zH) (x1 : Int32)  (w45 : Int32) : zev zc0 G 0 krI (zEk 45 (.iinc 1 1) 3 w45 :: es) σ [vR 11 0, vI x1] [] = zev zc0 G 0 krI es σ [vR 11 0, vI (x1 + w45)] [] := rfl
theorem t_X11_toneNow_51 {G : Nat → zH → List zAV → List zAV → Option (zH × Int32)} (es : List zEnt) (σ : zH)  (y0 : zAV) (y1 : zAV) (w51 : Int32) : zev zc0 G 0 krI (zEk 51 (.iconst 0) 1 w51 :: es) σ [y0, y1] [] = zev zc0 G 0 krI es σ [y0, y1] [vI w51] := rfl
noncomputable def k_X11_toneNow_2  : Nat → zH → Int32 → Option (zH × Int32)
  | 0, _, _ => none
  | n + 1, σ, x1 =>
    if x1 < (σ.1 42 0 1) then
      if x1 = (σ.1 11 0 29) then
        (k_X11_toneNow_2 n) σ (x1 + (1 : Int32))
      else
        ix x1 8 fun j1 =>
        if (σ.1 47 0 j1) = ((σ.1 42 0 4) - (σ.1 42 0 4) / (96 : Int32) * (96 : Int32)) then
          ix x1 8 fun j2 =>
          some (σ, (σ.1 48 0 j2))
        else
          (k_X11_toneNow_2 n) σ (x1 + (1 : Int32))
    else
      some (σ, (0 : Int32))
theorem e_X11_toneNow_2  (n : Nat) (σ : zH) (x1 : Int32)  : k_X11_toneNow_2 (n + 1) σ x1 = zin zc0 (fun t => if t = 2 then some (gl_X11_toneNow_2 (k_X11_toneNow_2 n)) else none) 0 krI b_X11_toneNow 2 σ [vR 11 0, vI x1] [] := by
  rw [k_X11_toneNow_2]
  refine Eq.symm ((zin_b (es := q_X11_toneNow_2) rfl).trans ?_)
  refine (t_X11_toneNow_2 _ _ _ _).trans ?_
  refine ((x_iald (N := 11) rfl rfl).trans (ix_l 1 (by decide +kernel))).trans ?_
  refine x_icmp.trans (pif_ge ?_ ?_)
  · refine (zrun_b (es := q_X11_toneNow_51) rfl rfl).trans ?_
    refine (t_X11_toneNow_51 _ _ _ _ _).trans ?_
    exact x_iret
  · refine (t_X11_toneNow_12 _ _ _).trans ?_
    refine x_icmp.trans (pif_eq ?_ ?_)
    · refine (zrun_b (es := q_X11_toneNow_45) rfl rfl).trans ?_
      refine (t_X11_toneNow_45 _ _ _ _).trans ?_
      refine x_goto.trans ?_
      exact (zrun_c rfl).trans (glr_X11_toneNow_2 _ _ _)
    · refine (t_X11_toneNow_20 _ _ _).trans ?_
      refine (x_iald (N := 8) rfl rfl).trans (pix fun _ => ?_)
      refine (t_X11_toneNow_26 _ _ _ _ _).trans ?_
      refine ((x_iald (N := 11) rfl rfl).trans (ix_l 4 (by decide +kernel))).trans ?_
      refine (t_X11_toneNow_32 _ _ _ _ _ _).trans ?_
      refine (x_irem.trans (nz_l (by decide +kernel))).trans ?_
      refine x_icmp.trans (pif_ne ?_ ?_)
      · refine (zrun_b (es := q_X11_toneNow_45) rfl rfl).trans ?_
        refine (t_X11_toneNow_45 _ _ _ _).trans ?_
        refine x_goto.trans ?_
        exact (zrun_c rfl).trans (glr_X11_toneNow_2 _ _ _)
      · refine (t_X11_toneNow_38 _ _ _).trans ?_
        refine (x_iald (N := 8) rfl rfl).trans (pix fun _ => ?_)
        exact x_iret
theorem s_X11_toneNow_2 {X : zX} (hX : zHX X)   : ∀ n σ L st r, gl_X11_toneNow_2 (k_X11_toneNow_2 n) σ L st = some r → zGW X 131 krI 2 σ L st r := by
  intro n
  induction n with
  | zero =>
    intro σ L st r h
    unfold gl_X11_toneNow_2 at h
    split at h <;> cases h
  | succ n ih =>
    intro σ L st r h
    unfold gl_X11_toneNow_2 at h
    split at h
    · exact zin_ok (hy_X11_toneNow hX) bk_X11_toneNow (fun t f hf => by
      by_cases e2 : t = 2
      · rw [if_pos e2] at hf; subst e2; cases hf; exact ih
      rw [if_neg e2] at hf
      cases hf) ((e_X11_toneNow_2 _ _ _).symm.trans h)
    · cases h
noncomputable def d_X11_toneNow (σ : zH)  : Option (zH × Int32) :=
  (k_X11_toneNow_2 zN) σ (0 : Int32)
theorem e_X11_toneNow (σ : zH)  : d_X11_toneNow σ = zin zc0 (fun t => if t = 2 then some (gl_X11_toneNow_2 (k_X11_toneNow_2 zN)) else none) 0 krI b_X11_toneNow 0 σ [vR 11 0, vU] [] := by
  unfold d_X11_toneNow
  refine Eq.symm ((zin_b (es := q_X11_toneNow_0) rfl).trans ?_)
  refine (t_X11_toneNow_0 _ _ _ _).trans ?_
  refine x_cut.trans ?_
  exact (zrun_c rfl).trans (glr_X11_toneNow_2 _ _ _)
noncomputable def g_X11_toneNow {ρ : Type} (σ : zH) (av : List zAV) (q : zH → zAV → Option ρ) : Option ρ := match av with
  | [.inr (.inr (.inl (11, 0)))] => (d_X11_toneNow σ).bind fun p => q p.1 (vI p.2)
  | _ => none
theorem gr_X11_toneNow {ρ : Type} (σ : zH)  (q : zH → zAV → Option ρ) : g_X11_toneNow σ [vR 11 0] q = (d_X11_toneNow σ).bind fun p => q p.1 (vI p.2) := rfl
theorem c_X11_toneNow {ρ : Type} {X : zX} (hX : zHX X) {σ : zH} {av : List zAV} {q : zH → zAV → Option ρ} {r : ρ} (h : g_X11_toneNow σ av q = some r) (hv : ∀ a ∈ av, zval X a) : zcon X 131 σ av q r := by
  unfold g_X11_toneNow at h
  split at h
  · exact zcon_I (n := 131) (ml := 2) (rc := 0) (st := 0) (kd := 11) (np := 0) (by decide +kernel) (by decide) ⟨_, _, rfl, rfl⟩ (Nat.le_of_ble_eq_true rfl) hv h (fun y h1 => (zin_ok (hy_X11_toneNow hX) bk_X11_toneNow (fun t f hf => by
      by_cases e2 : t = 2
      · rw [if_pos e2] at hf; subst e2; cases hf; exact ((fun σ L st r h => s_X11_toneNow_2 hX  zN σ L st r h))
      rw [if_neg e2] at hf
      cases hf) ((e_X11_toneNow _).symm.trans h1)))
  · cases h
/-! SleepWavesModel.put(I)V -/
def q_X11_put_0 : List zEnt := zEk 0 (.bipush 24) 2 24 :: zE 2 (.istore_n 2) 1 :: [zE 3 .nop 0]
def q_X11_put_33 : List zEnt := zEa 33 (.goto (-30)) 3 3 :: []
def q_X11_put_30 : List zEnt := zEk 30 (.iinc 2 (-8)) 3 (-8) :: q_X11_put_33
def q_X11_put_27 : List zEnt := zEf 27 (.putfield 181) 3 11 30 178 (0, 0, 0) :: q_X11_put_30
def q_X11_put_20 : List zEnt := zE 20 (.aload_n 0) 1 :: zE 21 .dup 1 :: zEf 22 (.getfield 181) 3 11 30 178 (0, 0, 0) :: zEk 25 (.iconst 1) 1 1 :: zE 26 .iadd 1 :: q_X11_put_27
def q_X11_put_19 : List zEnt := zE 19 .bastore 1 :: q_X11_put_20
def q_X11_put_7 : List zEnt := zE 7 (.aload_n 0) 1 :: zEf 8 (.getfield 101) 3 11 41 189 (2, 70, 0) :: zE 11 (.aload_n 0) 1 :: zEf 12 (.getfield 181) 3 11 30 178 (0, 0, 0) :: zE 15 (.iload_n 1) 1 :: zE 16 (.iload_n 2) 1 :: zE 17 .ishr 1 :: zE 18 .i2b 1 :: q_X11_put_19
def q_X11_put_4 : List zEnt := zEa 4 (.ifCond .lt 32) 3 36 :: q_X11_put_7
def q_X11_put_3 : List zEnt := zE 3 (.iload_n 2) 1 :: q_X11_put_4
def q_X11_put_36 : List zEnt := zE 36 .return_ 1 :: []
def b_X11_put : List (Nat × List zEnt) := [(0, q_X11_put_0), (3, q_X11_put_3), (36, q_X11_put_36)]
theorem bk_X11_put : zchB 133 b_X11_put = true := by decide +kernel
theorem hy_X11_put {ρ : Type} {X : zX} (hX : zHX X) : zHY X 133 (zc0 (ρ := ρ)) := zHX.hY hX (zc0_ok X) (zmok_all 133 (by decide))
def gl_X11_put_3 {ρ : Type} (f : zH → Int32 → Int32 → Option ρ) (σ : zH) (L st : List zAV) : Option ρ := match L, st with
  | [.inr (.inr (.inl (11, 0))), .inl x1, .inl x2], [] => f σ x1 x2
  | _, _ => none
theorem glr_X11_put_3 {ρ : Type} (f : zH → Int32 → Int32 → Option ρ) (σ : zH) (x1 : Int32) (x2 : Int32)  : gl_X11_put_3 f σ [vR 11 0, vI x1, vI x2] [] = f σ x1 x2 := rfl
theorem t_X11_put_0 {G : Nat → zH → List zAV → List zAV → Option zH} (es : List zEnt) (σ : zH) (x1 : Int32) (y2 : zAV) (w0 : Int32) : zev zc0 G 9 krV (zEk 0 (.bipush 24) 2 w0 :: zE 2 (.istore_n 2) 1 :: es) σ [vR 11 0, vI x1, y2] [] = zev zc0 G 9 krV es σ [vR 11 0, vI x1, vI w0] [] := rfl
theorem t_X11_put_3 {G : Nat → zH → List zAV → List zAV → Option zH} (es : List zEnt) (σ : zH) (x1 : Int32) (x2 : Int32)   : zev zc0 G 9 krV (zE 3 (.iload_n 2) 1 :: es) σ [vR 11 0, vI x1, vI x2] [] = zev zc0 G 9 krV es σ [vR 11 0, vI x1, vI x2] [vI x2] := rfl
theorem t_X11_put_7 {G : Nat → zH → List zAV → List zAV → Option zH} (es : List zEnt) (σ : zH) (x1 : Int32) (x2 : Int32)   : zev zc0 G 9 krV (zE 7 (.aload_n 0) 1 :: zEf 8 (.getfield 101) 3 11 41 189 (2, 70, 0) :: zE 11 (.aload_n 0) 1 :: zEf 12 (.getfield 181) 3 11 30 178 (0, 0, 0) :: zE 15 (.iload_n 1) 1 :: zE 16 (.iload_n 2) 1 :: zE 17 .ishr 1 :: zE 18 .i2b 1 :: es) σ [vR 11 0, vI x1, vI x2] [] = zev zc0 G 9 krV es σ [vR 11 0, vI x1, vI x2] [vI (x1 >>> (x2 &&& 31)).toInt8.toInt32, vI (σ.1 11 0 30), vR 70 0] := rfl
theorem t_X11_put_20 {G : Nat → zH → List zAV → List zAV → Option zH} (es : List zEnt) (σ : zH) (x1 : Int32) (x2 : Int32)  (w25 : Int32) : zev zc0 G 9 krV (zE 20 (.aload_n 0) 1 :: zE 21 .dup 1 :: zEf 22 (.getfield 181) 3 11 30 178 (0, 0, 0) :: zEk 25 (.iconst 1) 1 w25 :: zE 26 .iadd 1 :: es) σ [vR 11 0, vI x1, vI x2] [] = zev zc0 G 9 krV es σ [vR 11 0, vI x1, vI x2] [vI ((σ.1 11 0 30) + w25), vR 11 0] := rfl
theorem t_X11_put_30 {G : Nat → zH → List zAV → List zAV → Option zH} (es : List zEnt) (σ : zH) (x1 : Int32) (x2 : Int32)  (w30 : Int32) : zev zc0 G 9 krV (zEk 30 (.iinc 2 (-8)) 3 w30 :: es) σ [vR 11 0, vI x1, vI x2] [] = zev zc0 G 9 krV es σ [vR 11 0, vI x1, vI (x2 + w30)] [] := rfl
noncomputable def k_X11_put_3  : Nat → zH → Int32 → Int32 → Option zH
  | 0, _, _, _ => none
  | n + 1, σ, x1, x2 =>
    if x2 < 0 then
      some σ
    else
      ix (σ.1 11 0 30) 400 fun j3 =>
      zlet (uI σ 70 0 j3 (((x1 >>> (x2 &&& 31)).toInt8.toInt32).toInt8.toInt32)) fun σ1 =>
      zlet (uI σ1 11 0 30 ((σ1.1 11 0 30) + (1 : Int32))) fun σ2 =>
      (k_X11_put_3 n) σ2 x1 (x2 + (-8 : Int32))
theorem e_X11_put_3  (n : Nat) (σ : zH) (x1 : Int32) (x2 : Int32)  : k_X11_put_3 (n + 1) σ x1 x2 = zin zc0 (fun t => if t = 3 then some (gl_X11_put_3 (k_X11_put_3 n)) else none) 9 krV b_X11_put 3 σ [vR 11 0, vI x1, vI x2] [] := by
  rw [k_X11_put_3]
  refine Eq.symm ((zin_b (es := q_X11_put_3) rfl).trans ?_)
  refine (t_X11_put_3 _ _ _ _).trans ?_
  refine x_if.trans (pif_lt ?_ ?_)
  · refine (zrun_b (es := q_X11_put_36) rfl rfl).trans ?_
    exact x_vret
  · refine (t_X11_put_7 _ _ _ _).trans ?_
    refine (x_bas1 (N := 400) rfl rfl).trans (pix fun _ => plt fun _ => ?_)
    refine (t_X11_put_20 _ _ _ _ _).trans ?_
    refine x_pf0.trans (plt fun _ => ?_)
    refine (t_X11_put_30 _ _ _ _ _).trans ?_
    refine x_goto.trans ?_
    exact (zrun_c rfl).trans (glr_X11_put_3 _ _ _ _)
theorem s_X11_put_3 {X : zX} (hX : zHX X)   : ∀ n σ L st r, gl_X11_put_3 (k_X11_put_3 n) σ L st = some r → zGW X 133 krV 3 σ L st r := by
  intro n
  induction n with
  | zero =>
    intro σ L st r h
    unfold gl_X11_put_3 at h
    split at h <;> cases h
  | succ n ih =>
    intro σ L st r h
    unfold gl_X11_put_3 at h
    split at h
    · exact zin_ok (hy_X11_put hX) bk_X11_put (fun t f hf => by
      by_cases e3 : t = 3
      · rw [if_pos e3] at hf; subst e3; cases hf; exact ih
      rw [if_neg e3] at hf
      cases hf) ((e_X11_put_3 _ _ _ _).symm.trans h)
    · cases h
noncomputable def d_X11_put (σ : zH) (xa1 : Int32) : Option zH :=
  (k_X11_put_3 zN) σ xa1 (24 : Int32)
theorem e_X11_put (σ : zH) (xa1 : Int32) : d_X11_put σ xa1 = zin zc0 (fun t => if t = 3 then some (gl_X11_put_3 (k_X11_put_3 zN)) else none) 9 krV b_X11_put 0 σ [vR 11 0, vI xa1, vU] [] := by
  unfold d_X11_put
  refine Eq.symm ((zin_b (es := q_X11_put_0) rfl).trans ?_)
  refine (t_X11_put_0 _ _ _ _ _).trans ?_
  refine x_cut.trans ?_
  exact (zrun_c rfl).trans (glr_X11_put_3 _ _ _ _)
noncomputable def g_X11_put {ρ : Type} (σ : zH) (av : List zAV) (q : zH → zAV → Option ρ) : Option ρ := match av with
  | [.inr (.inr (.inl (11, 0))), .inl xa1] => (d_X11_put σ xa1).bind fun σ => q σ vU
  | _ => none
theorem gr_X11_put {ρ : Type} (σ : zH) (xa1 : Int32) (q : zH → zAV → Option ρ) : g_X11_put σ [vR 11 0, vI xa1] q = (d_X11_put σ xa1).bind fun σ => q σ vU := rfl
theorem c_X11_put {ρ : Type} {X : zX} (hX : zHX X) {σ : zH} {av : List zAV} {q : zH → zAV → Option ρ} {r : ρ} (h : g_X11_put σ av q = some r) (hv : ∀ a ∈ av, zval X a) : zcon X 133 σ av q r := by
  unfold g_X11_put at h
  split at h
  · exact zcon_V (n := 133) (ml := 3) (rc := 9) (st := 0) (kd := 11) (np := 1) (by decide +kernel) rfl ⟨_, _, rfl, rfl⟩ (Nat.le_of_ble_eq_true rfl) hv h (fun y h1 => (zin_ok (hy_X11_put hX) bk_X11_put (fun t f hf => by
      by_cases e3 : t = 3
      · rw [if_pos e3] at hf; subst e3; cases hf; exact ((fun σ L st r h => s_X11_put_3 hX  zN σ L st r h))
      rw [if_neg e3] at hf
      cases hf) ((e_X11_put _ _).symm.trans h1)))
  · cases h
/-! SleepWavesModel.feed(IIIII)I -/
def q_X11_feed_14 : List zEnt := zE 14 .ireturn 1 :: []
def q_X11_feed_13 : List zEnt := zEk 13 (.iconst (-1)) 1 (-1) :: q_X11_feed_14
def q_X11_feed_10 : List zEnt := zEa 10 (.if_icmp .le 5) 3 15 :: q_X11_feed_13
def q_X11_feed_0 : List zEnt := zE 0 (.aload_n 0) 1 :: zEf 1 (.getfield 181) 3 11 30 178 (0, 0, 0) :: zEk 4 (.bipush 20) 2 20 :: zE 6 .iadd 1 :: zEk 7 (.sipush 400) 3 400 :: q_X11_feed_10
def q_X11_feed_46 : List zEnt := zE 46 .ireturn 1 :: []
def q_X11_feed_42 : List zEnt := zE 42 (.aload_n 0) 1 :: zEf 43 (.getfield 181) 3 11 30 178 (0, 0, 0) :: q_X11_feed_46
def q_X11_feed_39 : List zEnt := zEc 39 (.invokevirtual 184) 3 133 2 116 1 :: q_X11_feed_42
def q_X11_feed_36 : List zEnt := zE 36 (.aload_n 0) 1 :: zE 37 (.iload 5) 2 :: q_X11_feed_39
def q_X11_feed_33 : List zEnt := zEc 33 (.invokevirtual 184) 3 133 2 116 1 :: q_X11_feed_36
def q_X11_feed_30 : List zEnt := zE 30 (.aload_n 0) 1 :: zE 31 (.iload 4) 2 :: q_X11_feed_33
def q_X11_feed_27 : List zEnt := zEc 27 (.invokevirtual 184) 3 133 2 116 1 :: q_X11_feed_30
def q_X11_feed_25 : List zEnt := zE 25 (.aload_n 0) 1 :: zE 26 (.iload_n 3) 1 :: q_X11_feed_27
def q_X11_feed_22 : List zEnt := zEc 22 (.invokevirtual 184) 3 133 2 116 1 :: q_X11_feed_25
def q_X11_feed_20 : List zEnt := zE 20 (.aload_n 0) 1 :: zE 21 (.iload_n 2) 1 :: q_X11_feed_22
def q_X11_feed_17 : List zEnt := zEc 17 (.invokevirtual 184) 3 133 2 116 1 :: q_X11_feed_20
def q_X11_feed_15 : List zEnt := zE 15 (.aload_n 0) 1 :: zE 16 (.iload_n 1) 1 :: q_X11_feed_17
def b_X11_feed : List (Nat × List zEnt) := [(0, q_X11_feed_0), (15, q_X11_feed_15)]
theorem bk_X11_feed : zchB 132 b_X11_feed = true := by decide +kernel
noncomputable def cc_X11_feed {ρ : Type} : Nat → zH → List zAV → (zH → zAV → Option ρ) → Option ρ := fun n σ av q => if n = 133 then g_X11_put σ av q else none
theorem cs_X11_feed {ρ : Type} {X : zX} (hX : zHX X) : zCS X (cc_X11_feed (ρ := ρ)) := by
  intro n σ av q r h hv
  unfold cc_X11_feed at h
  by_cases e_X11_put : n = 133
  · rw [if_pos e_X11_put] at h
    subst e_X11_put
    exact c_X11_put hX h hv
  rw [if_neg e_X11_put] at h
  cases h
theorem cl_X11_feed_X11_put {ρ : Type} (σ : zH) (av : List zAV) (q : zH → zAV → Option ρ) : cc_X11_feed 133 σ av q = g_X11_put σ av q := rfl
theorem hy_X11_feed {ρ : Type} {X : zX} (hX : zHX X) : zHY X 132 (cc_X11_feed (ρ := ρ)) := zHX.hY hX (cs_X11_feed hX) (zmok_all 132 (by decide))
theorem t_X11_feed_0 {G : Nat → zH → List zAV → List zAV → Option (zH × Int32)} (es : List zEnt) (σ : zH) (x1 : Int32) (x2 : Int32) (x3 : Int32) (x4 : Int32) (x5 : Int32)  (w4 : Int32) (w7 : Int32) : zev cc_X11_feed G 0 krI (zE 0 (.aload_n 0) 1 :: zEf 1 (.getfield 181) 3 11 30 178 (0, 0, 0) :: zEk 4 (.bipush 20) 2 w4 :: zE 6 .iadd 1 :: zEk 7 (.sipush 400) 3 w7 :: es) σ [vR 11 0, vI x1, vI x2, vI x3, vI x4, vI x5] [] = zev cc_X11_feed G 0 krI es σ [vR 11 0, vI x1, vI x2, vI x3, vI x4, vI x5] [vI w7, vI ((σ.1 11 0 30) + w4)] := rfl
theorem t_X11_feed_13 {G : Nat → zH → List zAV → List zAV → Option (zH × Int32)} (es : List zEnt) (σ : zH)  (y0 : zAV) (y1 : zAV) (y2 : zAV) (y3 : zAV) (y4 : zAV) (y5 : zAV) (w13 : Int32) : zev cc_X11_feed G 0 krI (zEk 13 (.iconst (-1)) 1 w13 :: es) σ [y0, y1, y2, y3, y4, y5] [] = zev cc_X11_feed G 0 krI es σ [y0, y1, y2, y3, y4, y5] [vI w13] := rfl
theorem t_X11_feed_15 {G : Nat → zH → List zAV → List zAV → Option (zH × Int32)} (es : List zEnt) (σ : zH) (x1 : Int32) (x2 : Int32) (x3 : Int32) (x4 : Int32) (x5 : Int32)   : zev cc_X11_feed G 0 krI (zE 15 (.aload_n 0) 1 :: zE 16 (.iload_n 1) 1 :: es) σ [vR 11 0, vI x1, vI x2, vI x3, vI x4, vI x5] [] = zev cc_X11_feed G 0 krI es σ [vR 11 0, vI x1, vI x2, vI x3, vI x4, vI x5] [vI x1, vR 11 0] := rfl
theorem t_X11_feed_20 {G : Nat → zH → List zAV → List zAV → Option (zH × Int32)} (es : List zEnt) (σ : zH) (x2 : Int32) (x3 : Int32) (x4 : Int32) (x5 : Int32) (y1 : zAV)  : zev cc_X11_feed G 0 krI (zE 20 (.aload_n 0) 1 :: zE 21 (.iload_n 2) 1 :: es) σ [vR 11 0, y1, vI x2, vI x3, vI x4, vI x5] [] = zev cc_X11_feed G 0 krI es σ [vR 11 0, y1, vI x2, vI x3, vI x4, vI x5] [vI x2, vR 11 0] := rfl
theorem t_X11_feed_25 {G : Nat → zH → List zAV → List zAV → Option (zH × Int32)} (es : List zEnt) (σ : zH) (x3 : Int32) (x4 : Int32) (x5 : Int32) (y1 : zAV) (y2 : zAV)  : zev cc_X11_feed G 0 krI (zE 25 (.aload_n 0) 1 :: zE 26 (.iload_n 3) 1 :: es) σ [vR 11 0, y1, y2, vI x3, vI x4, vI x5] [] = zev cc_X11_feed G 0 krI es σ [vR 11 0, y1, y2, vI x3, vI x4, vI x5] [vI x3, vR 11 0] := rfl
theorem t_X11_feed_30 {G : Nat → zH → List zAV → List zAV → Option (zH × Int32)} (es : List zEnt) (σ : zH) (x4 : Int32) (x5 : Int32) (y1 : zAV) (y2 : zAV) (y3 : zAV)  : zev cc_X11_feed G 0 krI (zE 30 (.aload_n 0) 1 :: zE 31 (.iload 4) 2 :: es) σ [vR 11 0, y1, y2, y3, vI x4, vI x5] [] = zev cc_X11_feed G 0 krI es σ [vR 11 0, y1, y2, y3, vI x4, vI x5] [vI x4, vR 11 0] := rfl
theorem t_X11_feed_36 {G : Nat → zH → List zAV → List zAV → Option (zH × Int32)} (es : List zEnt) (σ : zH) (x5 : Int32) (y1 : zAV) (y2 : zAV) (y3 : zAV) (y4 : zAV)  : zev cc_X11_feed G 0 krI (zE 36 (.aload_n 0) 1 :: zE 37 (.iload 5) 2 :: es) σ [vR 11 0, y1, y2, y3, y4, vI x5] [] = zev cc_X11_feed G 0 krI es σ [vR 11 0, y1, y2, y3, y4, vI x5] [vI x5, vR 11 0] := rfl
theorem t_X11_feed_42 {G : Nat → zH → List zAV → List zAV → Option (zH × Int32)} (es : List zEnt) (σ : zH)  (y1 : zAV) (y2 : zAV) (y3 : zAV) (y4 : zAV) (y5 : zAV)  : zev cc_X11_feed G 0 krI (zE 42 (.aload_n 0) 1 :: zEf 43 (.getfield 181) 3 11 30 178 (0, 0, 0) :: es) σ [vR 11 0, y1, y2, y3, y4, y5] [] = zev cc_X11_feed G 0 krI es σ [vR 11 0, y1, y2, y3, y4, y5] [vI (σ.1 11 0 30)] := rfl
noncomputable def d_X11_feed (σ : zH) (xa1 : Int32) (xa2 : Int32) (xa3 : Int32) (xa4 : Int32) (xa5 : Int32) : Option (zH × Int32) :=
  if (400 : Int32) < ((σ.1 11 0 30) + (20 : Int32)) then
    some (σ, (-1 : Int32))
  else
    (d_X11_put σ xa1).bind fun σ1 =>
    (d_X11_put σ1 xa2).bind fun σ2 =>
    (d_X11_put σ2 xa3).bind fun σ3 =>
    (d_X11_put σ3 xa4).bind fun σ4 =>
    (d_X11_put σ4 xa5).bind fun σ5 =>
    some (σ5, (σ5.1 11 0 30))
theorem e_X11_feed (σ : zH) (xa1 : Int32) (xa2 : Int32) (xa3 : Int32) (xa4 : Int32) (xa5 : Int32) : d_X11_feed σ xa1 xa2 xa3 xa4 xa5 = zin cc_X11_feed (fun t => none) 0 krI b_X11_feed 0 σ [vR 11 0, vI xa1, vI xa2, vI xa3, vI xa4, vI xa5] [] := by
  unfold d_X11_feed
  refine Eq.symm ((zin_b (es := q_X11_feed_0) rfl).trans ?_)
  refine (t_X11_feed_0 _ _ _ _ _ _ _ _ _).trans ?_
  refine x_icmp.trans (pif_le ?_ ?_)
  · refine (zrun_b (es := q_X11_feed_15) rfl rfl).trans ?_
    refine (t_X11_feed_15 _ _ _ _ _ _ _).trans ?_
    refine (x_callV rfl rfl rfl rfl).trans ((cl_X11_feed_X11_put _ _ _).trans ((gr_X11_put _ _ _).trans (pbd fun _ => ?_)))
    refine (t_X11_feed_20 _ _ _ _ _ _ _).trans ?_
    refine (x_callV rfl rfl rfl rfl).trans ((cl_X11_feed_X11_put _ _ _).trans ((gr_X11_put _ _ _).trans (pbd fun _ => ?_)))
    refine (t_X11_feed_25 _ _ _ _ _ _ _).trans ?_
    refine (x_callV rfl rfl rfl rfl).trans ((cl_X11_feed_X11_put _ _ _).trans ((gr_X11_put _ _ _).trans (pbd fun _ => ?_)))
    refine (t_X11_feed_30 _ _ _ _ _ _ _).trans ?_
    refine (x_callV rfl rfl rfl rfl).trans ((cl_X11_feed_X11_put _ _ _).trans ((gr_X11_put _ _ _).trans (pbd fun _ => ?_)))
    refine (t_X11_feed_36 _ _ _ _ _ _ _).trans ?_
    refine (x_callV rfl rfl rfl rfl).trans ((cl_X11_feed_X11_put _ _ _).trans ((gr_X11_put _ _ _).trans (pbd fun _ => ?_)))
    refine (t_X11_feed_42 _ _ _ _ _ _ _).trans ?_
    exact x_iret
  · refine (t_X11_feed_13 _ _ _ _ _ _ _ _ _).trans ?_
    exact x_iret
noncomputable def g_X11_feed {ρ : Type} (σ : zH) (av : List zAV) (q : zH → zAV → Option ρ) : Option ρ := match av with
  | [.inr (.inr (.inl (11, 0))), .inl xa1, .inl xa2, .inl xa3, .inl xa4, .inl xa5] => (d_X11_feed σ xa1 xa2 xa3 xa4 xa5).bind fun p => q p.1 (vI p.2)
  | _ => none
theorem gr_X11_feed {ρ : Type} (σ : zH) (xa1 : Int32) (xa2 : Int32) (xa3 : Int32) (xa4 : Int32) (xa5 : Int32) (q : zH → zAV → Option ρ) : g_X11_feed σ [vR 11 0, vI xa1, vI xa2, vI xa3, vI xa4, vI xa5] q = (d_X11_feed σ xa1 xa2 xa3 xa4 xa5).bind fun p => q p.1 (vI p.2) := rfl
theorem c_X11_feed {ρ : Type} {X : zX} (hX : zHX X) {σ : zH} {av : List zAV} {q : zH → zAV → Option ρ} {r : ρ} (h : g_X11_feed σ av q = some r) (hv : ∀ a ∈ av, zval X a) : zcon X 132 σ av q r := by
  unfold g_X11_feed at h
  split at h
  · exact zcon_I (n := 132) (ml := 6) (rc := 0) (st := 0) (kd := 11) (np := 5) (by decide +kernel) (by decide) ⟨_, _, rfl, rfl⟩ (Nat.le_of_ble_eq_true rfl) hv h (fun y h1 => (zin_ok (hy_X11_feed hX) bk_X11_feed (fun t f hf => by
      cases hf) ((e_X11_feed _ _ _ _ _ _).symm.trans h1)))
  · cases h
/-! SleepWavesModel.end(I)I -/
def q_X11_end_13 : List zEnt := zE 13 .ireturn 1 :: []
def q_X11_end_12 : List zEnt := zEk 12 (.iconst (-1)) 1 (-1) :: q_X11_end_13
def q_X11_end_9 : List zEnt := zEa 9 (.if_icmp .le 5) 3 14 :: q_X11_end_12
def q_X11_end_4 : List zEnt := zE 4 (.iload_n 1) 1 :: zE 5 (.aload_n 0) 1 :: zEf 6 (.getfield 181) 3 11 30 178 (0, 0, 0) :: q_X11_end_9
def q_X11_end_1 : List zEnt := zEa 1 (.ifCond .lt 11) 3 12 :: q_X11_end_4
def q_X11_end_0 : List zEnt := zE 0 (.iload_n 1) 1 :: q_X11_end_1
def q_X11_end_20 : List zEnt := zE 20 .ireturn 1 :: []
def q_X11_end_19 : List zEnt := zE 19 (.iload_n 1) 1 :: q_X11_end_20
def q_X11_end_16 : List zEnt := zEf 16 (.putfield 181) 3 11 30 178 (0, 0, 0) :: q_X11_end_19
def q_X11_end_14 : List zEnt := zE 14 (.aload_n 0) 1 :: zE 15 (.iload_n 1) 1 :: q_X11_end_16
def b_X11_end : List (Nat × List zEnt) := [(0, q_X11_end_0), (12, q_X11_end_12), (14, q_X11_end_14)]
theorem bk_X11_end : zchB 134 b_X11_end = true := by decide +kernel
theorem hy_X11_end {ρ : Type} {X : zX} (hX : zHX X) : zHY X 134 (zc0 (ρ := ρ)) := zHX.hY hX (zc0_ok X) (zmok_all 134 (by decide))
theorem t_X11_end_0 {G : Nat → zH → List zAV → List zAV → Option (zH × Int32)} (es : List zEnt) (σ : zH) (x1 : Int32)   : zev zc0 G 0 krI (zE 0 (.iload_n 1) 1 :: es) σ [vR 11 0, vI x1] [] = zev zc0 G 0 krI es σ [vR 11 0, vI x1] [vI x1] := rfl
theorem t_X11_end_4 {G : Nat → zH → List zAV → List zAV → Option (zH × Int32)} (es : List zEnt) (σ : zH) (x1 : Int32)   : zev zc0 G 0 krI (zE 4 (.iload_n 1) 1 :: zE 5 (.aload_n 0) 1 :: zEf 6 (.getfield 181) 3 11 30 178 (0, 0, 0) :: es) σ [vR 11 0, vI x1] [] = zev zc0 G 0 krI es σ [vR 11 0, vI x1] [vI (σ.1 11 0 30), vI x1] := rfl
theorem t_X11_end_12 {G : Nat → zH → List zAV → List zAV → Option (zH × Int32)} (es : List zEnt) (σ : zH)  (y0 : zAV) (y1 : zAV) (w12 : Int32) : zev zc0 G 0 krI (zEk 12 (.iconst (-1)) 1 w12 :: es) σ [y0, y1] [] = zev zc0 G 0 krI es σ [y0, y1] [vI w12] := rfl
theorem t_X11_end_14 {G : Nat → zH → List zAV → List zAV → Option (zH × Int32)} (es : List zEnt) (σ : zH) (x1 : Int32)   : zev zc0 G 0 krI (zE 14 (.aload_n 0) 1 :: zE 15 (.iload_n 1) 1 :: es) σ [vR 11 0, vI x1] [] = zev zc0 G 0 krI es σ [vR 11 0, vI x1] [vI x1, vR 11 0] := rfl
theorem t_X11_end_19 {G : Nat → zH → List zAV → List zAV → Option (zH × Int32)} (es : List zEnt) (σ : zH) (x1 : Int32) (y0 : zAV)  : zev zc0 G 0 krI (zE 19 (.iload_n 1) 1 :: es) σ [y0, vI x1] [] = zev zc0 G 0 krI es σ [y0, vI x1] [vI x1] := rfl
noncomputable def d_X11_end (σ : zH) (xa1 : Int32) : Option (zH × Int32) :=
  if xa1 < 0 then
    some (σ, (-1 : Int32))
  else
    if (σ.1 11 0 30) < xa1 then
      some (σ, (-1 : Int32))
    else
      zlet (uI σ 11 0 30 xa1) fun σ1 =>
      some (σ1, xa1)
theorem e_X11_end (σ : zH) (xa1 : Int32) : d_X11_end σ xa1 = zin zc0 (fun t => none) 0 krI b_X11_end 0 σ [vR 11 0, vI xa1] [] := by
  unfold d_X11_end
  refine Eq.symm ((zin_b (es := q_X11_end_0) rfl).trans ?_)
  refine (t_X11_end_0 _ _ _).trans ?_
  refine x_if.trans (pif_lt ?_ ?_)
  · refine (zrun_b (es := q_X11_end_12) rfl rfl).trans ?_
    refine (t_X11_end_12 _ _ _ _ _).trans ?_
    exact x_iret
  · refine (t_X11_end_4 _ _ _).trans ?_
    refine x_icmp.trans (pif_le ?_ ?_)
    · refine (zrun_b (es := q_X11_end_14) rfl rfl).trans ?_
      refine (t_X11_end_14 _ _ _).trans ?_
      refine x_pf0.trans (plt fun _ => ?_)
      refine (t_X11_end_19 _ _ _ _).trans ?_
      exact x_iret
    · refine (t_X11_end_12 _ _ _ _ _).trans ?_
      exact x_iret
noncomputable def g_X11_end {ρ : Type} (σ : zH) (av : List zAV) (q : zH → zAV → Option ρ) : Option ρ := match av with
  | [.inr (.inr (.inl (11, 0))), .inl xa1] => (d_X11_end σ xa1).bind fun p => q p.1 (vI p.2)
  | _ => none
theorem gr_X11_end {ρ : Type} (σ : zH) (xa1 : Int32) (q : zH → zAV → Option ρ) : g_X11_end σ [vR 11 0, vI xa1] q = (d_X11_end σ xa1).bind fun p => q p.1 (vI p.2) := rfl
theorem c_X11_end {ρ : Type} {X : zX} (hX : zHX X) {σ : zH} {av : List zAV} {q : zH → zAV → Option ρ} {r : ρ} (h : g_X11_end σ av q = some r) (hv : ∀ a ∈ av, zval X a) : zcon X 134 σ av q r := by
  unfold g_X11_end at h
  split at h
  · exact zcon_I (n := 134) (ml := 2) (rc := 0) (st := 0) (kd := 11) (np := 1) (by decide +kernel) (by decide) ⟨_, _, rfl, rfl⟩ (Nat.le_of_ble_eq_true rfl) hv h (fun y h1 => (zin_ok (hy_X11_end hX) bk_X11_end (fun t f hf => by
      cases hf) ((e_X11_end _ _).symm.trans h1)))
  · cases h
/-! SleepWavesModel.wordOf(I)Ljava/lang/String; -/
def q_X11_wordOf_1 : List zEnt := (1, (.tableswitch 78 0 8 #[51, 54, 57, 60, 63, 66, 69, 72, 75]), 51, (79, 0, 0, 0), (0, 0, 0), 0, 0, [(0, 52), (1, 55), (2, 58), (3, 61), (4, 64), (5, 67), (6, 70), (7, 73), (8, 76)]) :: []
def q_X11_wordOf_0 : List zEnt := zE 0 (.iload_n 0) 1 :: q_X11_wordOf_1
def q_X11_wordOf_54 : List zEnt := zE 54 .areturn 1 :: []
def q_X11_wordOf_52 : List zEnt := (52, (.ldc 188), 2, (1, 26, 0, 0), (0, 0, 0), 0, 0, []) :: q_X11_wordOf_54
def q_X11_wordOf_57 : List zEnt := zE 57 .areturn 1 :: []
def q_X11_wordOf_55 : List zEnt := (55, (.ldc 190), 2, (1, 27, 0, 0), (0, 0, 0), 0, 0, []) :: q_X11_wordOf_57
def q_X11_wordOf_60 : List zEnt := zE 60 .areturn 1 :: []
def q_X11_wordOf_58 : List zEnt := (58, (.ldc 192), 2, (1, 28, 0, 0), (0, 0, 0), 0, 0, []) :: q_X11_wordOf_60
def q_X11_wordOf_63 : List zEnt := zE 63 .areturn 1 :: []
def q_X11_wordOf_61 : List zEnt := (61, (.ldc 193), 2, (1, 29, 0, 0), (0, 0, 0), 0, 0, []) :: q_X11_wordOf_63
def q_X11_wordOf_66 : List zEnt := zE 66 .areturn 1 :: []
def q_X11_wordOf_64 : List zEnt := (64, (.ldc 195), 2, (1, 19, 0, 0), (0, 0, 0), 0, 0, []) :: q_X11_wordOf_66
def q_X11_wordOf_69 : List zEnt := zE 69 .areturn 1 :: []
def q_X11_wordOf_67 : List zEnt := (67, (.ldc 197), 2, (1, 30, 0, 0), (0, 0, 0), 0, 0, []) :: q_X11_wordOf_69
def q_X11_wordOf_72 : List zEnt := zE 72 .areturn 1 :: []
def q_X11_wordOf_70 : List zEnt := (70, (.ldc 198), 2, (1, 31, 0, 0), (0, 0, 0), 0, 0, []) :: q_X11_wordOf_72
def q_X11_wordOf_75 : List zEnt := zE 75 .areturn 1 :: []
def q_X11_wordOf_73 : List zEnt := (73, (.ldc 199), 2, (1, 32, 0, 0), (0, 0, 0), 0, 0, []) :: q_X11_wordOf_75
def q_X11_wordOf_78 : List zEnt := zE 78 .areturn 1 :: []
def q_X11_wordOf_76 : List zEnt := (76, (.ldc 201), 2, (1, 20, 0, 0), (0, 0, 0), 0, 0, []) :: q_X11_wordOf_78
def q_X11_wordOf_81 : List zEnt := zE 81 .areturn 1 :: []
def q_X11_wordOf_79 : List zEnt := (79, (.ldc 203), 2, (1, 33, 0, 0), (0, 0, 0), 0, 0, []) :: q_X11_wordOf_81
def b_X11_wordOf : List (Nat × List zEnt) := [(0, q_X11_wordOf_0), (52, q_X11_wordOf_52), (55, q_X11_wordOf_55), (58, q_X11_wordOf_58), (61, q_X11_wordOf_61), (64, q_X11_wordOf_64), (67, q_X11_wordOf_67), (70, q_X11_wordOf_70), (73, q_X11_wordOf_73), (76, q_X11_wordOf_76), (79, q_X11_wordOf_79)]
theorem bk_X11_wordOf : zchB 135 b_X11_wordOf = true := by decide +kernel
theorem hy_X11_wordOf {ρ : Type} {X : zX} (hX : zHX X) : zHY X 135 (zc0 (ρ := ρ)) := zHX.hY hX (zc0_ok X) (zmok_all 135 (by decide))
theorem t_X11_wordOf_0 {G : Nat → zH → List zAV → List zAV → Option (zH × Nat)} (es : List zEnt) (σ : zH) (x0 : Int32)   : zev zc0 G 4 krR (zE 0 (.iload_n 0) 1 :: es) σ [vI x0] [] = zev zc0 G 4 krR es σ [vI x0] [vI x0] := rfl
theorem t_X11_wordOf_52 {G : Nat → zH → List zAV → List zAV → Option (zH × Nat)} (es : List zEnt) (σ : zH)  (y0 : zAV)  : zev zc0 G 4 krR ((52, (.ldc 188), 2, (1, 26, 0, 0), (0, 0, 0), 0, 0, []) :: es) σ [y0] [] = zev zc0 G 4 krR es σ [y0] [vR 200 26] := rfl
theorem t_X11_wordOf_55 {G : Nat → zH → List zAV → List zAV → Option (zH × Nat)} (es : List zEnt) (σ : zH)  (y0 : zAV)  : zev zc0 G 4 krR ((55, (.ldc 190), 2, (1, 27, 0, 0), (0, 0, 0), 0, 0, []) :: es) σ [y0] [] = zev zc0 G 4 krR es σ [y0] [vR 200 27] := rfl
theorem t_X11_wordOf_58 {G : Nat → zH → List zAV → List zAV → Option (zH × Nat)} (es : List zEnt) (σ : zH)  (y0 : zAV)  : zev zc0 G 4 krR ((58, (.ldc 192), 2, (1, 28, 0, 0), (0, 0, 0), 0, 0, []) :: es) σ [y0] [] = zev zc0 G 4 krR es σ [y0] [vR 200 28] := rfl
theorem t_X11_wordOf_61 {G : Nat → zH → List zAV → List zAV → Option (zH × Nat)} (es : List zEnt) (σ : zH)  (y0 : zAV)  : zev zc0 G 4 krR ((61, (.ldc 193), 2, (1, 29, 0, 0), (0, 0, 0), 0, 0, []) :: es) σ [y0] [] = zev zc0 G 4 krR es σ [y0] [vR 200 29] := rfl
theorem t_X11_wordOf_64 {G : Nat → zH → List zAV → List zAV → Option (zH × Nat)} (es : List zEnt) (σ : zH)  (y0 : zAV)  : zev zc0 G 4 krR ((64, (.ldc 195), 2, (1, 19, 0, 0), (0, 0, 0), 0, 0, []) :: es) σ [y0] [] = zev zc0 G 4 krR es σ [y0] [vR 200 19] := rfl
theorem t_X11_wordOf_67 {G : Nat → zH → List zAV → List zAV → Option (zH × Nat)} (es : List zEnt) (σ : zH)  (y0 : zAV)  : zev zc0 G 4 krR ((67, (.ldc 197), 2, (1, 30, 0, 0), (0, 0, 0), 0, 0, []) :: es) σ [y0] [] = zev zc0 G 4 krR es σ [y0] [vR 200 30] := rfl
theorem t_X11_wordOf_70 {G : Nat → zH → List zAV → List zAV → Option (zH × Nat)} (es : List zEnt) (σ : zH)  (y0 : zAV)  : zev zc0 G 4 krR ((70, (.ldc 198), 2, (1, 31, 0, 0), (0, 0, 0), 0, 0, []) :: es) σ [y0] [] = zev zc0 G 4 krR es σ [y0] [vR 200 31] := rfl
theorem t_X11_wordOf_73 {G : Nat → zH → List zAV → List zAV → Option (zH × Nat)} (es : List zEnt) (σ : zH)  (y0 : zAV)  : zev zc0 G 4 krR ((73, (.ldc 199), 2, (1, 32, 0, 0), (0, 0, 0), 0, 0, []) :: es) σ [y0] [] = zev zc0 G 4 krR es σ [y0] [vR 200 32] := rfl
theorem t_X11_wordOf_76 {G : Nat → zH → List zAV → List zAV → Option (zH × Nat)} (es : List zEnt) (σ : zH)  (y0 : zAV)  : zev zc0 G 4 krR ((76, (.ldc 201), 2, (1, 20, 0, 0), (0, 0, 0), 0, 0, []) :: es) σ [y0] [] = zev zc0 G 4 krR es σ [y0] [vR 200 20] := rfl
theorem t_X11_wordOf_79 {G : Nat → zH → List zAV → List zAV → Option (zH × Nat)} (es : List zEnt) (σ : zH)  (y0 : zAV)  : zev zc0 G 4 krR ((79, (.ldc 203), 2, (1, 33, 0, 0), (0, 0, 0), 0, 0, []) :: es) σ [y0] [] = zev zc0 G 4 krR es σ [y0] [vR 200 33] := rfl
noncomputable def d_X11_wordOf (σ : zH) (xa0 : Int32) : Option (zH × Nat) :=
  if xa0 = (0 : Int32) then
    some (σ, 26)
  else if xa0 = (1 : Int32) then
    some (σ, 27)
  else if xa0 = (2 : Int32) then
    some (σ, 28)
  else if xa0 = (3 : Int32) then
    some (σ, 29)
  else if xa0 = (4 : Int32) then
    some (σ, 19)
  else if xa0 = (5 : Int32) then
    some (σ, 30)
  else if xa0 = (6 : Int32) then
    some (σ, 31)
  else if xa0 = (7 : Int32) then
    some (σ, 32)
  else if xa0 = (8 : Int32) then
    some (σ, 20)
  else 
    some (σ, 33)
theorem e_X11_wordOf (σ : zH) (xa0 : Int32) : d_X11_wordOf σ xa0 = zin zc0 (fun t => none) 4 krR b_X11_wordOf 0 σ [vI xa0] [] := by
  unfold d_X11_wordOf
  refine Eq.symm ((zin_b (es := q_X11_wordOf_0) rfl).trans ?_)
  refine (t_X11_wordOf_0 _ _ _).trans ?_
  refine x_tsw.trans ?_
  refine zsw_c ?_ ?_
  · refine (zrun_b (es := q_X11_wordOf_52) rfl rfl).trans ?_
    refine (t_X11_wordOf_52 _ _ _).trans ?_
    exact x_aret
  refine zsw_c ?_ ?_
  · refine (zrun_b (es := q_X11_wordOf_55) rfl rfl).trans ?_
    refine (t_X11_wordOf_55 _ _ _).trans ?_
    exact x_aret
  refine zsw_c ?_ ?_
  · refine (zrun_b (es := q_X11_wordOf_58) rfl rfl).trans ?_
    refine (t_X11_wordOf_58 _ _ _).trans ?_
    exact x_aret
  refine zsw_c ?_ ?_
  · refine (zrun_b (es := q_X11_wordOf_61) rfl rfl).trans ?_
    refine (t_X11_wordOf_61 _ _ _).trans ?_
    exact x_aret
  refine zsw_c ?_ ?_
  · refine (zrun_b (es := q_X11_wordOf_64) rfl rfl).trans ?_
    refine (t_X11_wordOf_64 _ _ _).trans ?_
    exact x_aret
  refine zsw_c ?_ ?_
  · refine (zrun_b (es := q_X11_wordOf_67) rfl rfl).trans ?_
    refine (t_X11_wordOf_67 _ _ _).trans ?_
    exact x_aret
  refine zsw_c ?_ ?_
  · refine (zrun_b (es := q_X11_wordOf_70) rfl rfl).trans ?_
    refine (t_X11_wordOf_70 _ _ _).trans ?_
    exact x_aret
  refine zsw_c ?_ ?_
  · refine (zrun_b (es := q_X11_wordOf_73) rfl rfl).trans ?_
    refine (t_X11_wordOf_73 _ _ _).trans ?_
    exact x_aret
  refine zsw_c ?_ ?_
  · refine (zrun_b (es := q_X11_wordOf_76) rfl rfl).trans ?_
    refine (t_X11_wordOf_76 _ _ _).trans ?_
    exact x_aret
  refine zsw_n ?_
  refine (zrun_b (es := q_X11_wordOf_79) rfl rfl).trans ?_
  refine (t_X11_wordOf_79 _ _ _).trans ?_
  exact x_aret
noncomputable def g_X11_wordOf {ρ : Type} (σ : zH) (av : List zAV) (q : zH → zAV → Option ρ) : Option ρ := match av with
  | [.inl xa0] => (d_X11_wordOf σ xa0).bind fun p => q p.1 (vR 200 p.2)
  | _ => none
theorem gr_X11_wordOf {ρ : Type} (σ : zH) (xa0 : Int32) (q : zH → zAV → Option ρ) : g_X11_wordOf σ [vI xa0] q = (d_X11_wordOf σ xa0).bind fun p => q p.1 (vR 200 p.2) := rfl
theorem c_X11_wordOf {ρ : Type} {X : zX} (hX : zHX X) {σ : zH} {av : List zAV} {q : zH → zAV → Option ρ} {r : ρ} (h : g_X11_wordOf σ av q = some r) (hv : ∀ a ∈ av, zval X a) : zcon X 135 σ av q r := by
  unfold g_X11_wordOf at h
  split at h
  · exact zcon_R (n := 135) (ml := 1) (rc := 4) (st := 1) (kd := 11) (np := 1) (by decide +kernel) (by decide) rfl (Nat.le_of_ble_eq_true rfl) hv h (fun y h1 => (zin_ok (hy_X11_wordOf hX) bk_X11_wordOf (fun t f hf => by
      cases hf) ((e_X11_wordOf _ _).symm.trans h1)))
  · cases h
/-! SleepWavesModel.barracksWord(I)Ljava/lang/String; -/
def q_X11_barracksWord_6 : List zEnt := zEa 6 (.goto 25) 3 31 :: []
def q_X11_barracksWord_4 : List zEnt := (4, (.ldc 195), 2, (1, 19, 0, 0), (0, 0, 0), 0, 0, []) :: q_X11_barracksWord_6
def q_X11_barracksWord_1 : List zEnt := zEa 1 (.ifCond .ne 8) 3 9 :: q_X11_barracksWord_4
def q_X11_barracksWord_0 : List zEnt := zE 0 (.iload_n 0) 1 :: q_X11_barracksWord_1
def q_X11_barracksWord_16 : List zEnt := zEa 16 (.goto 15) 3 31 :: []
def q_X11_barracksWord_14 : List zEnt := (14, (.ldc 201), 2, (1, 20, 0, 0), (0, 0, 0), 0, 0, []) :: q_X11_barracksWord_16
def q_X11_barracksWord_11 : List zEnt := zEa 11 (.if_icmp .ne 8) 3 19 :: q_X11_barracksWord_14
def q_X11_barracksWord_9 : List zEnt := zE 9 (.iload_n 0) 1 :: zEk 10 (.iconst 1) 1 1 :: q_X11_barracksWord_11
def q_X11_barracksWord_26 : List zEnt := zEa 26 (.goto 5) 3 31 :: []
def q_X11_barracksWord_24 : List zEnt := (24, (.ldc 204), 2, (1, 21, 0, 0), (0, 0, 0), 0, 0, []) :: q_X11_barracksWord_26
def q_X11_barracksWord_21 : List zEnt := zEa 21 (.if_icmp .ne 8) 3 29 :: q_X11_barracksWord_24
def q_X11_barracksWord_19 : List zEnt := zE 19 (.iload_n 0) 1 :: zEk 20 (.iconst 2) 1 2 :: q_X11_barracksWord_21
def q_X11_barracksWord_31 : List zEnt := zE 31 .areturn 1 :: []
def q_X11_barracksWord_29 : List zEnt := (29, (.ldc 206), 2, (1, 22, 0, 0), (0, 0, 0), 0, 0, []) :: q_X11_barracksWord_31
def b_X11_barracksWord : List (Nat × List zEnt) := [(0, q_X11_barracksWord_0), (9, q_X11_barracksWord_9), (19, q_X11_barracksWord_19), (29, q_X11_barracksWord_29), (31, q_X11_barracksWord_31)]
theorem bk_X11_barracksWord : zchB 136 b_X11_barracksWord = true := by decide +kernel
theorem hy_X11_barracksWord {ρ : Type} {X : zX} (hX : zHX X) : zHY X 136 (zc0 (ρ := ρ)) := zHX.hY hX (zc0_ok X) (zmok_all 136 (by decide))
theorem t_X11_barracksWord_0 {G : Nat → zH → List zAV → List zAV → Option (zH × Nat)} (es : List zEnt) (σ : zH) (x0 : Int32)   : zev zc0 G 4 krR (zE 0 (.iload_n 0) 1 :: es) σ [vI x0] [] = zev zc0 G 4 krR es σ [vI x0] [vI x0] := rfl
theorem t_X11_barracksWord_4 {G : Nat → zH → List zAV → List zAV → Option (zH × Nat)} (es : List zEnt) (σ : zH)  (y0 : zAV)  : zev zc0 G 4 krR ((4, (.ldc 195), 2, (1, 19, 0, 0), (0, 0, 0), 0, 0, []) :: es) σ [y0] [] = zev zc0 G 4 krR es σ [y0] [vR 200 19] := rfl
theorem t_X11_barracksWord_9 {G : Nat → zH → List zAV → List zAV → Option (zH × Nat)} (es : List zEnt) (σ : zH) (x0 : Int32)  (w10 : Int32) : zev zc0 G 4 krR (zE 9 (.iload_n 0) 1 :: zEk 10 (.iconst 1) 1 w10 :: es) σ [vI x0] [] = zev zc0 G 4 krR es σ [vI x0] [vI w10, vI x0] := rfl
theorem t_X11_barracksWord_14 {G : Nat → zH → List zAV → List zAV → Option (zH × Nat)} (es : List zEnt) (σ : zH)  (y0 : zAV)  : zev zc0 G 4 krR ((14, (.ldc 201), 2, (1, 20, 0, 0), (0, 0, 0), 0, 0, []) :: es) σ [y0] [] = zev zc0 G 4 krR es σ [y0] [vR 200 20] := rfl
theorem t_X11_barracksWord_19 {G : Nat → zH → List zAV → List zAV → Option (zH × Nat)} (es : List zEnt) (σ : zH) (x0 : Int32)  (w20 : Int32) : zev zc0 G 4 krR (zE 19 (.iload_n 0) 1 :: zEk 20 (.iconst 2) 1 w20 :: es) σ [vI x0] [] = zev zc0 G 4 krR es σ [vI x0] [vI w20, vI x0] := rfl
theorem t_X11_barracksWord_24 {G : Nat → zH → List zAV → List zAV → Option (zH × Nat)} (es : List zEnt) (σ : zH)  (y0 : zAV)  : zev zc0 G 4 krR ((24, (.ldc 204), 2, (1, 21, 0, 0), (0, 0, 0), 0, 0, []) :: es) σ [y0] [] = zev zc0 G 4 krR es σ [y0] [vR 200 21] := rfl
theorem t_X11_barracksWord_29 {G : Nat → zH → List zAV → List zAV → Option (zH × Nat)} (es : List zEnt) (σ : zH)  (y0 : zAV)  : zev zc0 G 4 krR ((29, (.ldc 206), 2, (1, 22, 0, 0), (0, 0, 0), 0, 0, []) :: es) σ [y0] [] = zev zc0 G 4 krR es σ [y0] [vR 200 22] := rfl
noncomputable def d_X11_barracksWord (σ : zH) (xa0 : Int32) : Option (zH × Nat) :=
  if xa0 = 0 then
    some (σ, 19)
  else
    if xa0 = (1 : Int32) then
      some (σ, 20)
    else
      if xa0 = (2 : Int32) then
        some (σ, 21)
      else
        some (σ, 22)
theorem e_X11_barracksWord (σ : zH) (xa0 : Int32) : d_X11_barracksWord σ xa0 = zin zc0 (fun t => none) 4 krR b_X11_barracksWord 0 σ [vI xa0] [] := by
  unfold d_X11_barracksWord
  refine Eq.symm ((zin_b (es := q_X11_barracksWord_0) rfl).trans ?_)
  refine (t_X11_barracksWord_0 _ _ _).trans ?_
  refine x_if.trans (pif_ne ?_ ?_)
  · refine (zrun_b (es := q_X11_barracksWord_9) rfl rfl).trans ?_
    refine (t_X11_barracksWord_9 _ _ _ _).trans ?_
    refine x_icmp.trans (pif_ne ?_ ?_)
    · refine (zrun_b (es := q_X11_barracksWord_19) rfl rfl).trans ?_
      refine (t_X11_barracksWord_19 _ _ _ _).trans ?_
      refine x_icmp.trans (pif_ne ?_ ?_)
      · refine (zrun_b (es := q_X11_barracksWord_29) rfl rfl).trans ?_
        refine (t_X11_barracksWord_29 _ _ _).trans ?_
        exact x_aret
      · refine (t_X11_barracksWord_24 _ _ _).trans ?_
        refine x_goto.trans ?_
        refine (zrun_b (es := q_X11_barracksWord_31) rfl rfl).trans ?_
        exact x_aret
    · refine (t_X11_barracksWord_14 _ _ _).trans ?_
      refine x_goto.trans ?_
      refine (zrun_b (es := q_X11_barracksWord_31) rfl rfl).trans ?_
      exact x_aret
  · refine (t_X11_barracksWord_4 _ _ _).trans ?_
    refine x_goto.trans ?_
    refine (zrun_b (es := q_X11_barracksWord_31) rfl rfl).trans ?_
    exact x_aret
noncomputable def g_X11_barracksWord {ρ : Type} (σ : zH) (av : List zAV) (q : zH → zAV → Option ρ) : Option ρ := match av with
  | [.inl xa0] => (d_X11_barracksWord σ xa0).bind fun p => q p.1 (vR 200 p.2)
  | _ => none
theorem gr_X11_barracksWord {ρ : Type} (σ : zH) (xa0 : Int32) (q : zH → zAV → Option ρ) : g_X11_barracksWord σ [vI xa0] q = (d_X11_barracksWord σ xa0).bind fun p => q p.1 (vR 200 p.2) := rfl
theorem c_X11_barracksWord {ρ : Type} {X : zX} (hX : zHX X) {σ : zH} {av : List zAV} {q : zH → zAV → Option ρ} {r : ρ} (h : g_X11_barracksWord σ av q = some r) (hv : ∀ a ∈ av, zval X a) : zcon X 136 σ av q r := by
  unfold g_X11_barracksWord at h
  split at h
  · exact zcon_R (n := 136) (ml := 1) (rc := 4) (st := 1) (kd := 11) (np := 1) (by decide +kernel) (by decide) rfl (Nat.le_of_ble_eq_true rfl) hv h (fun y h1 => (zin_ok (hy_X11_barracksWord hX) bk_X11_barracksWord (fun t f hf => by
      cases hf) ((e_X11_barracksWord _ _).symm.trans h1)))
  · cases h
/-! SleepWavesModel.fails(II)V -/
def q_X11_fails_16 : List zEnt := zEa 16 (.goto 7) 3 23 :: []
def q_X11_fails_8 : List zEnt := zEk 8 (.iconst 1) 1 1 :: zEk 9 (.bipush 8) 2 8 :: zE 11 (.iload_n 2) 1 :: zE 12 .imul 1 :: zE 13 .iadd 1 :: zE 14 (.iload_n 1) 1 :: zE 15 .iadd 1 :: q_X11_fails_16
def q_X11_fails_5 : List zEnt := zEa 5 (.ifCond .ne 14) 3 19 :: q_X11_fails_8
def q_X11_fails_0 : List zEnt := zE 0 (.aload_n 0) 1 :: zE 1 (.aload_n 0) 1 :: zEf 2 (.getfield 208) 3 11 32 180 (0, 0, 0) :: q_X11_fails_5
def q_X11_fails_19 : List zEnt := zE 19 (.aload_n 0) 1 :: zEf 20 (.getfield 208) 3 11 32 180 (0, 0, 0) :: [zE 23 .nop 0]
def q_X11_fails_26 : List zEnt := zE 26 .return_ 1 :: []
def q_X11_fails_23 : List zEnt := zEf 23 (.putfield 208) 3 11 32 180 (0, 0, 0) :: q_X11_fails_26
def b_X11_fails : List (Nat × List zEnt) := [(0, q_X11_fails_0), (19, q_X11_fails_19), (23, q_X11_fails_23)]
theorem bk_X11_fails : zchB 137 b_X11_fails = true := by decide +kernel
theorem hy_X11_fails {ρ : Type} {X : zX} (hX : zHX X) : zHY X 137 (zc0 (ρ := ρ)) := zHX.hY hX (zc0_ok X) (zmok_all 137 (by decide))
def gl_X11_fails_23 {ρ : Type} (f : zH → Int32 → Option ρ) (σ : zH) (L st : List zAV) : Option ρ := match L, st with
  | [_, _, _], [.inl xs1, .inr (.inr (.inl (11, 0)))] => f σ xs1
  | _, _ => none
theorem glr_X11_fails_23 {ρ : Type} (f : zH → Int32 → Option ρ) (σ : zH) (xs1 : Int32) (y0 : zAV) (y1 : zAV) (y2 : zAV) : gl_X11_fails_23 f σ [y0, y1, y2] [vI xs1, vR 11 0] = f σ xs1 := rfl
theorem t_X11_fails_0 {G : Nat → zH → List zAV → List zAV → Option zH} (es : List zEnt) (σ : zH) (x1 : Int32) (x2 : Int32)   : zev zc0 G 9 krV (zE 0 (.aload_n 0) 1 :: zE 1 (.aload_n 0) 1 :: zEf 2 (.getfield 208) 3 11 32 180 (0, 0, 0) :: es) σ [vR 11 0, vI x1, vI x2] [] = zev zc0 G 9 krV es σ [vR 11 0, vI x1, vI x2] [vI (σ.1 11 0 32), vR 11 0] := rfl
theorem t_X11_fails_8 {G : Nat → zH → List zAV → List zAV → Option zH} (es : List zEnt) (σ : zH) (x1 : Int32) (x2 : Int32) (y0 : zAV) (w8 : Int32) (w9 : Int32) : zev zc0 G 9 krV (zEk 8 (.iconst 1) 1 w8 :: zEk 9 (.bipush 8) 2 w9 :: zE 11 (.iload_n 2) 1 :: zE 12 .imul 1 :: zE 13 .iadd 1 :: zE 14 (.iload_n 1) 1 :: zE 15 .iadd 1 :: es) σ [y0, vI x1, vI x2] [vR 11 0] = zev zc0 G 9 krV es σ [y0, vI x1, vI x2] [vI ((w8 + (w9 * x2)) + x1), vR 11 0] := rfl
theorem t_X11_fails_19 {G : Nat → zH → List zAV → List zAV → Option zH} (es : List zEnt) (σ : zH)  (y1 : zAV) (y2 : zAV)  : zev zc0 G 9 krV (zE 19 (.aload_n 0) 1 :: zEf 20 (.getfield 208) 3 11 32 180 (0, 0, 0) :: es) σ [vR 11 0, y1, y2] [vR 11 0] = zev zc0 G 9 krV es σ [vR 11 0, y1, y2] [vI (σ.1 11 0 32), vR 11 0] := rfl
noncomputable def j_X11_fails_23  (σ : zH) (xs1 : Int32) : Option zH :=
  zlet (uI σ 11 0 32 xs1) fun σ1 =>
  some σ1
theorem e_X11_fails_23  (σ : zH) (xs1 : Int32) (y0 : zAV) (y1 : zAV) (y2 : zAV) : j_X11_fails_23 σ xs1 = zin zc0 (fun t => none) 9 krV b_X11_fails 23 σ [y0, y1, y2] [vI xs1, vR 11 0] := by
  unfold j_X11_fails_23
  refine Eq.symm ((zin_b (es := q_X11_fails_23) rfl).trans ?_)
  refine x_pf0.trans (plt fun _ => ?_)
  exact x_vret
theorem s_X11_fails_23 {X : zX} (hX : zHX X)   : ∀ σ L st r, gl_X11_fails_23 j_X11_fails_23 σ L st = some r → zGW X 137 krV 23 σ L st r := by
  intro σ L st r h
  unfold gl_X11_fails_23 at h
  split at h
  · exact zin_ok (hy_X11_fails hX) bk_X11_fails (fun t f hf => by
    cases hf) ((e_X11_fails_23 _ _ _ _ _).symm.trans h)
  · cases h
noncomputable def d_X11_fails (σ : zH) (xa1 : Int32) (xa2 : Int32) : Option zH :=
  if (σ.1 11 0 32) = 0 then
    j_X11_fails_23 σ (((1 : Int32) + ((8 : Int32) * xa2)) + xa1)
  else
    j_X11_fails_23 σ (σ.1 11 0 32)
theorem e_X11_fails (σ : zH) (xa1 : Int32) (xa2 : Int32) : d_X11_fails σ xa1 xa2 = zin zc0 (fun t => if t = 23 then some (gl_X11_fails_23 j_X11_fails_23) else none) 9 krV b_X11_fails 0 σ [vR 11 0, vI xa1, vI xa2] [] := by
  unfold d_X11_fails
  refine Eq.symm ((zin_b (es := q_X11_fails_0) rfl).trans ?_)
  refine (t_X11_fails_0 _ _ _ _).trans ?_
  refine x_if.trans (pif_ne ?_ ?_)
  · refine (zrun_b (es := q_X11_fails_19) rfl rfl).trans ?_
    refine (t_X11_fails_19 _ _ _ _).trans ?_
    refine x_cut.trans ?_
    exact (zrun_c rfl).trans (glr_X11_fails_23 _ _ _ _ _ _)
  · refine (t_X11_fails_8 _ _ _ _ _ _ _).trans ?_
    refine x_goto.trans ?_
    exact (zrun_c rfl).trans (glr_X11_fails_23 _ _ _ _ _ _)
noncomputable def g_X11_fails {ρ : Type} (σ : zH) (av : List zAV) (q : zH → zAV → Option ρ) : Option ρ := match av with
  | [.inr (.inr (.inl (11, 0))), .inl xa1, .inl xa2] => (d_X11_fails σ xa1 xa2).bind fun σ => q σ vU
  | _ => none
theorem gr_X11_fails {ρ : Type} (σ : zH) (xa1 : Int32) (xa2 : Int32) (q : zH → zAV → Option ρ) : g_X11_fails σ [vR 11 0, vI xa1, vI xa2] q = (d_X11_fails σ xa1 xa2).bind fun σ => q σ vU := rfl
theorem c_X11_fails {ρ : Type} {X : zX} (hX : zHX X) {σ : zH} {av : List zAV} {q : zH → zAV → Option ρ} {r : ρ} (h : g_X11_fails σ av q = some r) (hv : ∀ a ∈ av, zval X a) : zcon X 137 σ av q r := by
  unfold g_X11_fails at h
  split at h
  · exact zcon_V (n := 137) (ml := 3) (rc := 9) (st := 0) (kd := 11) (np := 2) (by decide +kernel) rfl ⟨_, _, rfl, rfl⟩ (Nat.le_of_ble_eq_true rfl) hv h (fun y h1 => (zin_ok (hy_X11_fails hX) bk_X11_fails (fun t f hf => by
      by_cases e23 : t = 23
      · rw [if_pos e23] at hf; subst e23; cases hf; exact (s_X11_fails_23 hX)
      rw [if_neg e23] at hf
      cases hf) ((e_X11_fails _ _ _).symm.trans h1)))
  · cases h
/-! SleepWavesModel.sign()I -/
def q_X11_sign_24 : List zEnt := zEa 24 (.goto 4) 3 28 :: []
def q_X11_sign_20 : List zEnt := zEk 20 (.sipush 255) 3 255 :: zE 23 .iand 1 :: q_X11_sign_24
def q_X11_sign_19 : List zEnt := zE 19 .baload 1 :: q_X11_sign_20
def q_X11_sign_11 : List zEnt := zE 11 (.aload_n 0) 1 :: zEf 12 (.getfield 101) 3 11 41 189 (2, 70, 0) :: zE 15 (.aload_n 0) 1 :: zEf 16 (.getfield 211) 3 11 31 179 (0, 0, 0) :: q_X11_sign_19
def q_X11_sign_8 : List zEnt := zEa 8 (.if_icmp .ge 19) 3 27 :: q_X11_sign_11
def q_X11_sign_0 : List zEnt := zE 0 (.aload_n 0) 1 :: zEf 1 (.getfield 211) 3 11 31 179 (0, 0, 0) :: zE 4 (.aload_n 0) 1 :: zEf 5 (.getfield 181) 3 11 30 178 (0, 0, 0) :: q_X11_sign_8
def q_X11_sign_28 : List zEnt := zE 28 .ireturn 1 :: []
def q_X11_sign_27 : List zEnt := zEk 27 (.iconst (-1)) 1 (-1) :: q_X11_sign_28
def b_X11_sign : List (Nat × List zEnt) := [(0, q_X11_sign_0), (27, q_X11_sign_27), (28, q_X11_sign_28)]
theorem bk_X11_sign : zchB 138 b_X11_sign = true := by decide +kernel
theorem hy_X11_sign {ρ : Type} {X : zX} (hX : zHX X) : zHY X 138 (zc0 (ρ := ρ)) := zHX.hY hX (zc0_ok X) (zmok_all 138 (by decide))
theorem t_X11_sign_0 {G : Nat → zH → List zAV → List zAV → Option (zH × Int32)} (es : List zEnt) (σ : zH)    : zev zc0 G 0 krI (zE 0 (.aload_n 0) 1 :: zEf 1 (.getfield 211) 3 11 31 179 (0, 0, 0) :: zE 4 (.aload_n 0) 1 :: zEf 5 (.getfield 181) 3 11 30 178 (0, 0, 0) :: es) σ [vR 11 0] [] = zev zc0 G 0 krI es σ [vR 11 0] [vI (σ.1 11 0 30), vI (σ.1 11 0 31)] := rfl
theorem t_X11_sign_11 {G : Nat → zH → List zAV → List zAV → Option (zH × Int32)} (es : List zEnt) (σ : zH)    : zev zc0 G 0 krI (zE 11 (.aload_n 0) 1 :: zEf 12 (.getfield 101) 3 11 41 189 (2, 70, 0) :: zE 15 (.aload_n 0) 1 :: zEf 16 (.getfield 211) 3 11 31 179 (0, 0, 0) :: es) σ [vR 11 0] [] = zev zc0 G 0 krI es σ [vR 11 0] [vI (σ.1 11 0 31), vR 70 0] := rfl
theorem t_X11_sign_20 {G : Nat → zH → List zAV → List zAV → Option (zH × Int32)} (es : List zEnt) (σ : zH) (xs0 : Int32) (y0 : zAV) (w20 : Int32) : zev zc0 G 0 krI (zEk 20 (.sipush 255) 3 w20 :: zE 23 .iand 1 :: es) σ [y0] [vI xs0] = zev zc0 G 0 krI es σ [y0] [vI (xs0 &&& w20)] := rfl
theorem t_X11_sign_27 {G : Nat → zH → List zAV → List zAV → Option (zH × Int32)} (es : List zEnt) (σ : zH)  (y0 : zAV) (w27 : Int32) : zev zc0 G 0 krI (zEk 27 (.iconst (-1)) 1 w27 :: es) σ [y0] [] = zev zc0 G 0 krI es σ [y0] [vI w27] := rfl
noncomputable def d_X11_sign (σ : zH)  : Option (zH × Int32) :=
  if (σ.1 11 0 31) < (σ.1 11 0 30) then
    ix (σ.1 11 0 31) 400 fun j1 =>
    some (σ, ((σ.1 70 0 j1) &&& (255 : Int32)))
  else
    some (σ, (-1 : Int32))
theorem e_X11_sign (σ : zH)  : d_X11_sign σ = zin zc0 (fun t => none) 0 krI b_X11_sign 0 σ [vR 11 0] [] := by
  unfold d_X11_sign
  refine Eq.symm ((zin_b (es := q_X11_sign_0) rfl).trans ?_)
  refine (t_X11_sign_0 _ _).trans ?_
  refine x_icmp.trans (pif_ge ?_ ?_)
  · refine (zrun_b (es := q_X11_sign_27) rfl rfl).trans ?_
    refine (t_X11_sign_27 _ _ _ _).trans ?_
    exact x_iret
  · refine (t_X11_sign_11 _ _).trans ?_
    refine (x_bald (N := 400) rfl rfl).trans (pix fun _ => ?_)
    refine (t_X11_sign_20 _ _ _ _ _).trans ?_
    refine x_goto.trans ?_
    refine (zrun_b (es := q_X11_sign_28) rfl rfl).trans ?_
    exact x_iret
noncomputable def g_X11_sign {ρ : Type} (σ : zH) (av : List zAV) (q : zH → zAV → Option ρ) : Option ρ := match av with
  | [.inr (.inr (.inl (11, 0)))] => (d_X11_sign σ).bind fun p => q p.1 (vI p.2)
  | _ => none
theorem gr_X11_sign {ρ : Type} (σ : zH)  (q : zH → zAV → Option ρ) : g_X11_sign σ [vR 11 0] q = (d_X11_sign σ).bind fun p => q p.1 (vI p.2) := rfl
theorem c_X11_sign {ρ : Type} {X : zX} (hX : zHX X) {σ : zH} {av : List zAV} {q : zH → zAV → Option ρ} {r : ρ} (h : g_X11_sign σ av q = some r) (hv : ∀ a ∈ av, zval X a) : zcon X 138 σ av q r := by
  unfold g_X11_sign at h
  split at h
  · exact zcon_I (n := 138) (ml := 1) (rc := 0) (st := 0) (kd := 11) (np := 0) (by decide +kernel) (by decide) ⟨_, _, rfl, rfl⟩ (Nat.le_of_ble_eq_true rfl) hv h (fun y h1 => (zin_ok (hy_X11_sign hX) bk_X11_sign (fun t f hf => by
      cases hf) ((e_X11_sign _).symm.trans h1)))
  · cases h
/-! SleepWavesModel.blanks()V -/
def q_X11_blanks_19 : List zEnt := zEa 19 (.goto (-19)) 3 0 :: []
def q_X11_blanks_16 : List zEnt := zEf 16 (.putfield 211) 3 11 31 179 (0, 0, 0) :: q_X11_blanks_19
def q_X11_blanks_9 : List zEnt := zE 9 (.aload_n 0) 1 :: zE 10 .dup 1 :: zEf 11 (.getfield 211) 3 11 31 179 (0, 0, 0) :: zEk 14 (.iconst 1) 1 1 :: zE 15 .iadd 1 :: q_X11_blanks_16
def q_X11_blanks_6 : List zEnt := zEa 6 (.if_icmp .ne 16) 3 22 :: q_X11_blanks_9
def q_X11_blanks_4 : List zEnt := zEk 4 (.bipush 32) 2 32 :: q_X11_blanks_6
def q_X11_blanks_1 : List zEnt := zEc 1 (.invokevirtual 214) 3 138 1 120 0 :: q_X11_blanks_4
def q_X11_blanks_0 : List zEnt := zE 0 (.aload_n 0) 1 :: q_X11_blanks_1
def q_X11_blanks_22 : List zEnt := zE 22 .return_ 1 :: []
def b_X11_blanks : List (Nat × List zEnt) := [(0, q_X11_blanks_0), (22, q_X11_blanks_22)]
theorem bk_X11_blanks : zchB 139 b_X11_blanks = true := by decide +kernel
noncomputable def cc_X11_blanks {ρ : Type} : Nat → zH → List zAV → (zH → zAV → Option ρ) → Option ρ := fun n σ av q => if n = 138 then g_X11_sign σ av q else none
theorem cs_X11_blanks {ρ : Type} {X : zX} (hX : zHX X) : zCS X (cc_X11_blanks (ρ := ρ)) := by
  intro n σ av q r h hv
  unfold cc_X11_blanks at h
  by_cases e_X11_sign : n = 138
  · rw [if_pos e_X11_sign] at h
    subst e_X11_sign
    exact c_X11_sign hX h hv
  rw [if_neg e_X11_sign] at h
  cases h
theorem cl_X11_blanks_X11_sign {ρ : Type} (σ : zH) (av : List zAV) (q : zH → zAV → Option ρ) : cc_X11_blanks 138 σ av q = g_X11_sign σ av q := rfl
theorem hy_X11_blanks {ρ : Type} {X : zX} (hX : zHX X) : zHY X 139 (cc_X11_blanks (ρ := ρ)) := zHX.hY hX (cs_X11_blanks hX) (zmok_all 139 (by decide))
def gl_X11_blanks_0 {ρ : Type} (f : zH → Option ρ) (σ : zH) (L st : List zAV) : Option ρ := match L, st with
  | [.inr (.inr (.inl (11, 0)))], [] => f σ
  | _, _ => none
theorem glr_X11_blanks_0 {ρ : Type} (f : zH → Option ρ) (σ : zH)   : gl_X11_blanks_0 f σ [vR 11 0] [] = f σ := rfl
theorem t_X11_blanks_0 {G : Nat → zH → List zAV → List zAV → Option zH} (es : List zEnt) (σ : zH)    : zev cc_X11_blanks G 9 krV (zE 0 (.aload_n 0) 1 :: es) σ [vR 11 0] [] = zev cc_X11_blanks G 9 krV es σ [vR 11 0] [vR 11 0] := rfl
theorem t_X11_blanks_4 {G : Nat → zH → List zAV → List zAV → Option zH} (es : List zEnt) (σ : zH) (xs0 : Int32)  (w4 : Int32) : zev cc_X11_blanks G 9 krV (zEk 4 (.bipush 32) 2 w4 :: es) σ [vR 11 0] [vI xs0] = zev cc_X11_blanks G 9 krV es σ [vR 11 0] [vI w4, vI xs0] := rfl
theorem t_X11_blanks_9 {G : Nat → zH → List zAV → List zAV → Option zH} (es : List zEnt) (σ : zH)   (w14 : Int32) : zev cc_X11_blanks G 9 krV (zE 9 (.aload_n 0) 1 :: zE 10 .dup 1 :: zEf 11 (.getfield 211) 3 11 31 179 (0, 0, 0) :: zEk 14 (.iconst 1) 1 w14 :: zE 15 .iadd 1 :: es) σ [vR 11 0] [] = zev cc_X11_blanks G 9 krV es σ [vR 11 0] [vI ((σ.1 11 0 31) + w14), vR 11 0] := rfl
noncomputable def k_X11_blanks_0  : Nat → zH → Option zH
  | 0, _ => none
  | n + 1, σ =>
    (d_X11_sign σ).bind fun p1 =>
    if p1.2 = (32 : Int32) then
      zlet (uI p1.1 11 0 31 ((p1.1.1 11 0 31) + (1 : Int32))) fun σ2 =>
      (k_X11_blanks_0 n) σ2
    else
      some p1.1
theorem e_X11_blanks_0  (n : Nat) (σ : zH)   : k_X11_blanks_0 (n + 1) σ = zin cc_X11_blanks (fun t => if t = 0 then some (gl_X11_blanks_0 (k_X11_blanks_0 n)) else none) 9 krV b_X11_blanks 0 σ [vR 11 0] [] := by
  rw [k_X11_blanks_0]
  refine Eq.symm ((zin_b (es := q_X11_blanks_0) rfl).trans ?_)
  refine (t_X11_blanks_0 _ _).trans ?_
  refine (x_callV rfl rfl rfl rfl).trans ((cl_X11_blanks_X11_sign _ _ _).trans ((gr_X11_sign _ _).trans (pbd fun _ => ?_)))
  refine (t_X11_blanks_4 _ _ _ _).trans ?_
  refine x_icmp.trans (pif_ne ?_ ?_)
  · refine (zrun_b (es := q_X11_blanks_22) rfl rfl).trans ?_
    exact x_vret
  · refine (t_X11_blanks_9 _ _ _).trans ?_
    refine x_pf0.trans (plt fun _ => ?_)
    refine x_goto.trans ?_
    exact (zrun_c rfl).trans (glr_X11_blanks_0 _ _)
theorem s_X11_blanks_0 {X : zX} (hX : zHX X)   : ∀ n σ L st r, gl_X11_blanks_0 (k_X11_blanks_0 n) σ L st = some r → zGW X 139 krV 0 σ L st r := by
  intro n
  induction n with
  | zero =>
    intro σ L st r h
    unfold gl_X11_blanks_0 at h
    split at h <;> cases h
  | succ n ih =>
    intro σ L st r h
    unfold gl_X11_blanks_0 at h
    split at h
    · exact zin_ok (hy_X11_blanks hX) bk_X11_blanks (fun t f hf => by
      by_cases e0 : t = 0
      · rw [if_pos e0] at hf; subst e0; cases hf; exact ih
      rw [if_neg e0] at hf
      cases hf) ((e_X11_blanks_0 _ _).symm.trans h)
    · cases h
noncomputable def d_X11_blanks (σ : zH)  : Option zH :=
  (k_X11_blanks_0 zN) σ
theorem e_X11_blanks (σ : zH)  : d_X11_blanks σ = gl_X11_blanks_0 (k_X11_blanks_0 zN) σ [vR 11 0] [] := by
  unfold d_X11_blanks
  exact (glr_X11_blanks_0 _ _).symm
noncomputable def g_X11_blanks {ρ : Type} (σ : zH) (av : List zAV) (q : zH → zAV → Option ρ) : Option ρ := match av with
  | [.inr (.inr (.inl (11, 0)))] => (d_X11_blanks σ).bind fun σ => q σ vU
  | _ => none
theorem gr_X11_blanks {ρ : Type} (σ : zH)  (q : zH → zAV → Option ρ) : g_X11_blanks σ [vR 11 0] q = (d_X11_blanks σ).bind fun σ => q σ vU := rfl
theorem c_X11_blanks {ρ : Type} {X : zX} (hX : zHX X) {σ : zH} {av : List zAV} {q : zH → zAV → Option ρ} {r : ρ} (h : g_X11_blanks σ av q = some r) (hv : ∀ a ∈ av, zval X a) : zcon X 139 σ av q r := by
  unfold g_X11_blanks at h
  split at h
  · exact zcon_V (n := 139) (ml := 1) (rc := 9) (st := 0) (kd := 11) (np := 0) (by decide +kernel) rfl ⟨_, _, rfl, rfl⟩ (Nat.le_of_ble_eq_true rfl) hv h (fun y h1 => (((fun σ L st r h => s_X11_blanks_0 hX  zN σ L st r h)) σ _ _ _ ((e_X11_blanks _).symm.trans h1)))
  · cases h
/-! SleepWavesModel.isDigit()Z -/
def q_X11_isDigit_14 : List zEnt := zE 14 .ireturn 1 :: []
def q_X11_isDigit_11 : List zEnt := zEc 11 (.invokestatic 173) 3 125 3 129 0 :: q_X11_isDigit_14
def q_X11_isDigit_4 : List zEnt := zE 4 .i2l 1 :: (5, (.ldc2_w 218), 3, (0, 0, 1400, 0), (0, 0, 0), 0, 48, []) :: (8, (.ldc2_w 220), 3, (0, 0, 1401, 0), (0, 0, 0), 0, 57, []) :: q_X11_isDigit_11
def q_X11_isDigit_1 : List zEnt := zEc 1 (.invokevirtual 214) 3 138 1 120 0 :: q_X11_isDigit_4
def q_X11_isDigit_0 : List zEnt := zE 0 (.aload_n 0) 1 :: q_X11_isDigit_1
def b_X11_isDigit : List (Nat × List zEnt) := [(0, q_X11_isDigit_0)]
theorem bk_X11_isDigit : zchB 140 b_X11_isDigit = true := by decide +kernel
noncomputable def cc_X11_isDigit {ρ : Type} : Nat → zH → List zAV → (zH → zAV → Option ρ) → Option ρ := fun n σ av q => if n = 138 then g_X11_sign σ av q else if n = 125 then g_X11_in σ av q else none
theorem cs_X11_isDigit {ρ : Type} {X : zX} (hX : zHX X) : zCS X (cc_X11_isDigit (ρ := ρ)) := by
  intro n σ av q r h hv
  unfold cc_X11_isDigit at h
  by_cases e_X11_sign : n = 138
  · rw [if_pos e_X11_sign] at h
    subst e_X11_sign
    exact c_X11_sign hX h hv
  rw [if_neg e_X11_sign] at h
  by_cases e_X11_in : n = 125
  · rw [if_pos e_X11_in] at h
    subst e_X11_in
    exact c_X11_in hX h hv
  rw [if_neg e_X11_in] at h
  cases h
theorem cl_X11_isDigit_X11_sign {ρ : Type} (σ : zH) (av : List zAV) (q : zH → zAV → Option ρ) : cc_X11_isDigit 138 σ av q = g_X11_sign σ av q := rfl
theorem cl_X11_isDigit_X11_in {ρ : Type} (σ : zH) (av : List zAV) (q : zH → zAV → Option ρ) : cc_X11_isDigit 125 σ av q = g_X11_in σ av q := rfl
theorem hy_X11_isDigit {ρ : Type} {X : zX} (hX : zHX X) : zHY X 140 (cc_X11_isDigit (ρ := ρ)) := zHX.hY hX (cs_X11_isDigit hX) (zmok_all 140 (by decide))
theorem t_X11_isDigit_0 {G : Nat → zH → List zAV → List zAV → Option (zH × Int32)} (es : List zEnt) (σ : zH)    : zev cc_X11_isDigit G 1 krI (zE 0 (.aload_n 0) 1 :: es) σ [vR 11 0] [] = zev cc_X11_isDigit G 1 krI es σ [vR 11 0] [vR 11 0] := rfl
theorem t_X11_isDigit_4 {G : Nat → zH → List zAV → List zAV → Option (zH × Int32)} (es : List zEnt) (σ : zH) (xs0 : Int32) (y0 : zAV) (w5 : Int64) (w8 : Int64) : zev cc_X11_isDigit G 1 krI (zE 4 .i2l 1 :: (5, (.ldc2_w 218), 3, (0, 0, 1400, 0), (0, 0, 0), 0, w5, []) :: (8, (.ldc2_w 220), 3, (0, 0, 1401, 0), (0, 0, 0), 0, w8, []) :: es) σ [y0] [vI xs0] = zev cc_X11_isDigit G 1 krI es σ [y0] [vL w8, vL w5, vL xs0.toInt64] := rfl
noncomputable def d_X11_isDigit (σ : zH)  : Option (zH × Int32) :=
  (d_X11_sign σ).bind fun p1 =>
  (d_X11_in p1.1 p1.2.toInt64 (48 : Int64) (57 : Int64)).bind fun p2 =>
  tv p2.2 <| some (p2.1, p2.2)
theorem e_X11_isDigit (σ : zH)  : d_X11_isDigit σ = zin cc_X11_isDigit (fun t => none) 1 krI b_X11_isDigit 0 σ [vR 11 0] [] := by
  unfold d_X11_isDigit
  refine Eq.symm ((zin_b (es := q_X11_isDigit_0) rfl).trans ?_)
  refine (t_X11_isDigit_0 _ _).trans ?_
  refine (x_callV rfl rfl rfl rfl).trans ((cl_X11_isDigit_X11_sign _ _ _).trans ((gr_X11_sign _ _).trans (pbd fun _ => ?_)))
  refine (t_X11_isDigit_4 _ _ _ _ _ _).trans ?_
  refine (x_callS rfl rfl rfl rfl).trans ((cl_X11_isDigit_X11_in _ _ _).trans ((gr_X11_in _ _ _ _ _).trans (pbd fun _ => ?_)))
  exact x_zret
noncomputable def g_X11_isDigit {ρ : Type} (σ : zH) (av : List zAV) (q : zH → zAV → Option ρ) : Option ρ := match av with
  | [.inr (.inr (.inl (11, 0)))] => (d_X11_isDigit σ).bind fun p => q p.1 (vI p.2)
  | _ => none
theorem gr_X11_isDigit {ρ : Type} (σ : zH)  (q : zH → zAV → Option ρ) : g_X11_isDigit σ [vR 11 0] q = (d_X11_isDigit σ).bind fun p => q p.1 (vI p.2) := rfl
theorem c_X11_isDigit {ρ : Type} {X : zX} (hX : zHX X) {σ : zH} {av : List zAV} {q : zH → zAV → Option ρ} {r : ρ} (h : g_X11_isDigit σ av q = some r) (hv : ∀ a ∈ av, zval X a) : zcon X 140 σ av q r := by
  unfold g_X11_isDigit at h
  split at h
  · exact zcon_I (n := 140) (ml := 1) (rc := 1) (st := 0) (kd := 11) (np := 0) (by decide +kernel) (by decide) ⟨_, _, rfl, rfl⟩ (Nat.le_of_ble_eq_true rfl) hv h (fun y h1 => (zin_ok (hy_X11_isDigit hX) bk_X11_isDigit (fun t f hf => by
      cases hf) ((e_X11_isDigit _).symm.trans h1)))
  · cases h
/-! SleepWavesModel.stood(Ljava/lang/String;)Z -/
def q_X11_stood_0 : List zEnt := zE 0 (.aload_n 0) 1 :: zEf 1 (.getfield 211) 3 11 31 179 (0, 0, 0) :: zE 4 (.istore_n 2) 1 :: [zE 5 .nop 0]
def q_X11_stood_38 : List zEnt := zEa 38 (.goto (-33)) 3 5 :: []
def q_X11_stood_35 : List zEnt := zEk 35 (.iinc 2 1) 3 1 :: q_X11_stood_38
def q_X11_stood_32 : List zEnt := zEa 32 (.if_icmp .gt 9) 3 41 :: q_X11_stood_35
def q_X11_stood_30 : List zEnt := zEk 30 (.bipush 122) 2 122 :: q_X11_stood_32
def q_X11_stood_29 : List zEnt := zE 29 .baload 1 :: q_X11_stood_30
def q_X11_stood_24 : List zEnt := zE 24 (.aload_n 0) 1 :: zEf 25 (.getfield 101) 3 11 41 189 (2, 70, 0) :: zE 28 (.iload_n 2) 1 :: q_X11_stood_29
def q_X11_stood_21 : List zEnt := zEa 21 (.if_icmp .lt 20) 3 41 :: q_X11_stood_24
def q_X11_stood_19 : List zEnt := zEk 19 (.bipush 97) 2 97 :: q_X11_stood_21
def q_X11_stood_18 : List zEnt := zE 18 .baload 1 :: q_X11_stood_19
def q_X11_stood_13 : List zEnt := zE 13 (.aload_n 0) 1 :: zEf 14 (.getfield 101) 3 11 41 189 (2, 70, 0) :: zE 17 (.iload_n 2) 1 :: q_X11_stood_18
def q_X11_stood_10 : List zEnt := zEa 10 (.if_icmp .ge 31) 3 41 :: q_X11_stood_13
def q_X11_stood_5 : List zEnt := zE 5 (.iload_n 2) 1 :: zE 6 (.aload_n 0) 1 :: zEf 7 (.getfield 181) 3 11 30 178 (0, 0, 0) :: q_X11_stood_10
def q_X11_stood_55 : List zEnt := zEa 55 (.goto 4) 3 59 :: []
def q_X11_stood_54 : List zEnt := zEk 54 (.iconst 1) 1 1 :: q_X11_stood_55
def q_X11_stood_51 : List zEnt := zEa 51 (.if_icmp .ne 7) 3 58 :: q_X11_stood_54
def q_X11_stood_41 : List zEnt := zE 41 (.iload_n 2) 1 :: zE 42 (.aload_n 0) 1 :: zEf 43 (.getfield 211) 3 11 31 179 (0, 0, 0) :: zE 46 .isub 1 :: zE 47 (.aload_n 1) 1 :: zEc 48 (.invokevirtual 222) 3 9000 0 1373 0 :: q_X11_stood_51
def q_X11_stood_58 : List zEnt := zEk 58 (.iconst 0) 1 0 :: [zE 59 .nop 0]
def q_X11_stood_59 : List zEnt := zE 59 (.istore_n 3) 1 :: zEk 60 (.iconst 0) 1 0 :: zE 61 (.istore 4) 2 :: [zE 63 .nop 0]
def q_X11_stood_98 : List zEnt := zEa 98 (.goto 4) 3 102 :: []
def q_X11_stood_97 : List zEnt := zEk 97 (.iconst 1) 1 1 :: q_X11_stood_98
def q_X11_stood_94 : List zEnt := zEa 94 (.if_icmp .ne 7) 3 101 :: q_X11_stood_97
def q_X11_stood_91 : List zEnt := zEc 91 (.invokevirtual 226) 3 9001 0 1374 0 :: q_X11_stood_94
def q_X11_stood_88 : List zEnt := zE 88 (.aload_n 1) 1 :: zE 89 (.iload 4) 2 :: q_X11_stood_91
def q_X11_stood_87 : List zEnt := zE 87 .baload 1 :: q_X11_stood_88
def q_X11_stood_76 : List zEnt := zE 76 (.aload_n 0) 1 :: zEf 77 (.getfield 101) 3 11 41 189 (2, 70, 0) :: zE 80 (.aload_n 0) 1 :: zEf 81 (.getfield 211) 3 11 31 179 (0, 0, 0) :: zE 84 (.iload 4) 2 :: zE 86 .iadd 1 :: q_X11_stood_87
def q_X11_stood_73 : List zEnt := zEa 73 (.ifCond .eq 36) 3 109 :: q_X11_stood_76
def q_X11_stood_72 : List zEnt := zE 72 (.iload_n 3) 1 :: q_X11_stood_73
def q_X11_stood_69 : List zEnt := zEa 69 (.if_icmp .ge 40) 3 109 :: q_X11_stood_72
def q_X11_stood_63 : List zEnt := zE 63 (.iload 4) 2 :: zE 65 (.aload_n 1) 1 :: zEc 66 (.invokevirtual 222) 3 9000 0 1373 0 :: q_X11_stood_69
def q_X11_stood_101 : List zEnt := zEk 101 (.iconst 0) 1 0 :: [zE 102 .nop 0]
def q_X11_stood_106 : List zEnt := zEa 106 (.goto (-43)) 3 63 :: []
def q_X11_stood_102 : List zEnt := zE 102 (.istore_n 3) 1 :: zEk 103 (.iinc 4 1) 3 1 :: q_X11_stood_106
def q_X11_stood_110 : List zEnt := zE 110 .ireturn 1 :: []
def q_X11_stood_109 : List zEnt := zE 109 (.iload_n 3) 1 :: q_X11_stood_110
def b_X11_stood : List (Nat × List zEnt) := [(0, q_X11_stood_0), (5, q_X11_stood_5), (41, q_X11_stood_41), (58, q_X11_stood_58), (59, q_X11_stood_59), (63, q_X11_stood_63), (101, q_X11_stood_101), (102, q_X11_stood_102), (109, q_X11_stood_109)]
theorem bk_X11_stood : zchB 141 b_X11_stood = true := by decide +kernel
theorem hy_X11_stood {ρ : Type} {X : zX} (hX : zHX X) : zHY X 141 (zc0 (ρ := ρ)) := zHX.hY hX (zc0_ok X) (zmok_all 141 (by decide))
def gl_X11_stood_5 {ρ : Type} (f : zH → Nat → Int32 → Option ρ) (σ : zH) (L st : List zAV) : Option ρ := match L, st with
  | [.inr (.inr (.inl (11, 0))), .inr (.inr (.inl (200, i1))), .inl x2, _, _], [] => f σ i1 x2
  | _, _ => none
def gl_X11_stood_41 {ρ : Type} (f : zH → Nat → Int32 → Option ρ) (σ : zH) (L st : List zAV) : Option ρ := match L, st with
  | [.inr (.inr (.inl (11, 0))), .inr (.inr (.inl (200, i1))), .inl x2, _, _], [] => f σ i1 x2
  | _, _ => none
def gl_X11_stood_59 {ρ : Type} (f : zH → Nat → Int32 → Option ρ) (σ : zH) (L st : List zAV) : Option ρ := match L, st with
  | [.inr (.inr (.inl (11, 0))), .inr (.inr (.inl (200, i1))), _, _, _], [.inl xs0] => f σ i1 xs0
  | _, _ => none
def gl_X11_stood_63 {ρ : Type} (f : zH → Nat → Int32 → Int32 → Option ρ) (σ : zH) (L st : List zAV) : Option ρ := match L, st with
  | [.inr (.inr (.inl (11, 0))), .inr (.inr (.inl (200, i1))), _, .inl x3, .inl x4], [] => f σ i1 x3 x4
  | _, _ => none
def gl_X11_stood_102 {ρ : Type} (f : zH → Nat → Int32 → Int32 → Option ρ) (σ : zH) (L st : List zAV) : Option ρ := match L, st with
  | [.inr (.inr (.inl (11, 0))), .inr (.inr (.inl (200, i1))), _, _, .inl x4], [.inl xs0] => f σ i1 x4 xs0
  | _, _ => none
theorem glr_X11_stood_5 {ρ : Type} (f : zH → Nat → Int32 → Option ρ) (σ : zH) (i1 : Nat) (x2 : Int32) (y3 : zAV) (y4 : zAV) : gl_X11_stood_5 f σ [vR 11 0, vR 200 i1, vI x2, y3, y4] [] = f σ i1 x2 := rfl
theorem glr_X11_stood_41 {ρ : Type} (f : zH → Nat → Int32 → Option ρ) (σ : zH) (i1 : Nat) (x2 : Int32) (y3 : zAV) (y4 : zAV) : gl_X11_stood_41 f σ [vR 11 0, vR 200 i1, vI x2, y3, y4] [] = f σ i1 x2 := rfl
theorem glr_X11_stood_59 {ρ : Type} (f : zH → Nat → Int32 → Option ρ) (σ : zH) (i1 : Nat) (xs0 : Int32) (y2 : zAV) (y3 : zAV) (y4 : zAV) : gl_X11_stood_59 f σ [vR 11 0, vR 200 i1, y2, y3, y4] [vI xs0] = f σ i1 xs0 := rfl
theorem glr_X11_stood_63 {ρ : Type} (f : zH → Nat → Int32 → Int32 → Option ρ) (σ : zH) (i1 : Nat) (x3 : Int32) (x4 : Int32) (y2 : zAV) : gl_X11_stood_63 f σ [vR 11 0, vR 200 i1, y2, vI x3, vI x4] [] = f σ i1 x3 x4 := rfl
theorem glr_X11_stood_102 {ρ : Type} (f : zH → Nat → Int32 → Int32 → Option ρ) (σ : zH) (i1 : Nat) (x4 : Int32) (xs0 : Int32) (y2 : zAV) (y3 : zAV) : gl_X11_stood_102 f σ [vR 11 0, vR 200 i1, y2, y3, vI x4] [vI xs0] = f σ i1 x4 xs0 := rfl
theorem t_X11_stood_0 {G : Nat → zH → List zAV → List zAV → Option (zH × Int32)} (es : List zEnt) (σ : zH) (i1 : Nat) (y2 : zAV) (y3 : zAV) (y4 : zAV)  : zev zc0 G 1 krI (zE 0 (.aload_n 0) 1 :: zEf 1 (.getfield 211) 3 11 31 179 (0, 0, 0) :: zE 4 (.istore_n 2) 1 :: es) σ [vR 11 0, vR 200 i1, y2, y3, y4] [] = zev zc0 G 1 krI es σ [vR 11 0, vR 200 i1, vI (σ.1 11 0 31), y3, y4] [] := rfl
theorem t_X11_stood_5 {G : Nat → zH → List zAV → List zAV → Option (zH × Int32)} (es : List zEnt) (σ : zH) (i1 : Nat) (x2 : Int32) (y3 : zAV) (y4 : zAV)  : zev zc0 G 1 krI (zE 5 (.iload_n 2) 1 :: zE 6 (.aload_n 0) 1 :: zEf 7 (.getfield 181) 3 11 30 178 (0, 0, 0) :: es) σ [vR 11 0, vR 200 i1, vI x2, y3, y4] [] = zev zc0 G 1 krI es σ [vR 11 0, vR 200 i1, vI x2, y3, y4] [vI (σ.1 11 0 30), vI x2] := rfl
theorem t_X11_stood_13 {G : Nat → zH → List zAV → List zAV → Option (zH × Int32)} (es : List zEnt) (σ : zH) (i1 : Nat) (x2 : Int32) (y3 : zAV) (y4 : zAV)  : zev zc0 G 1 krI (zE 13 (.aload_n 0) 1 :: zEf 14 (.getfield 101) 3 11 41 189 (2, 70, 0) :: zE 17 (.iload_n 2) 1 :: es) σ [vR 11 0, vR 200 i1, vI x2, y3, y4] [] = zev zc0 G 1 krI es σ [vR 11 0, vR 200 i1, vI x2, y3, y4] [vI x2, vR 70 0] := rfl
theorem t_X11_stood_19 {G : Nat → zH → List zAV → List zAV → Option (zH × Int32)} (es : List zEnt) (σ : zH) (i1 : Nat) (x2 : Int32) (xs0 : Int32) (y3 : zAV) (y4 : zAV) (w19 : Int32) : zev zc0 G 1 krI (zEk 19 (.bipush 97) 2 w19 :: es) σ [vR 11 0, vR 200 i1, vI x2, y3, y4] [vI xs0] = zev zc0 G 1 krI es σ [vR 11 0, vR 200 i1, vI x2, y3, y4] [vI w19, vI xs0] := rfl
theorem t_X11_stood_24 {G : Nat → zH → List zAV → List zAV → Option (zH × Int32)} (es : List zEnt) (σ : zH) (i1 : Nat) (x2 : Int32) (y3 : zAV) (y4 : zAV)  : zev zc0 G 1 krI (zE 24 (.aload_n 0) 1 :: zEf 25 (.getfield 101) 3 11 41 189 (2, 70, 0) :: zE 28 (.iload_n 2) 1 :: es) σ [vR 11 0, vR 200 i1, vI x2, y3, y4] [] = zev zc0 G 1 krI es σ [vR 11 0, vR 200 i1, vI x2, y3, y4] [vI x2, vR 70 0] := rfl
theorem t_X11_stood_30 {G : Nat → zH → List zAV → List zAV → Option (zH × Int32)} (es : List zEnt) (σ : zH) (i1 : Nat) (x2 : Int32) (xs0 : Int32) (y3 : zAV) (y4 : zAV) (w30 : Int32) : zev zc0 G 1 krI (zEk 30 (.bipush 122) 2 w30 :: es) σ [vR 11 0, vR 200 i1, vI x2, y3, y4] [vI xs0] = zev zc0 G 1 krI es σ [vR 11 0, vR 200 i1, vI x2, y3, y4] [vI w30, vI xs0] := rfl
theorem t_X11_stood_35 {G : Nat → zH → List zAV → List zAV → Option (zH × Int32)} (es : List zEnt) (σ : zH) (i1 : Nat) (x2 : Int32) (y3 : zAV) (y4 : zAV) (w35 : Int32) : zev zc0 G 1 krI (zEk 35 (.iinc 2 1) 3 w35 :: es) σ [vR 11 0, vR 200 i1, vI x2, y3, y4] [] = zev zc0 G 1 krI es σ [vR 11 0, vR 200 i1, vI (x2 + w35), y3, y4] [] := rfl
theorem t_X11_stood_41 {G : Nat → zH → List zAV → List zAV → Option (zH × Int32)} (es : List zEnt) (σ : zH) (i1 : Nat) (x2 : Int32) (y3 : zAV) (y4 : zAV)  : zev zc0 G 1 krI (zE 41 (.iload_n 2) 1 :: zE 42 (.aload_n 0) 1 :: zEf 43 (.getfield 211) 3 11 31 179 (0, 0, 0) :: zE 46 .isub 1 :: zE 47 (.aload_n 1) 1 :: zEc 48 (.invokevirtual 222) 3 9000 0 1373 0 :: es) σ [vR 11 0, vR 200 i1, vI x2, y3, y4] [] = zev zc0 G 1 krI es σ [vR 11 0, vR 200 i1, vI x2, y3, y4] [vI (Int32.ofNat (zsN i1)), vI (x2 - (σ.1 11 0 31))] := rfl
theorem t_X11_stood_54 {G : Nat → zH → List zAV → List zAV → Option (zH × Int32)} (es : List zEnt) (σ : zH) (i1 : Nat) (y2 : zAV) (y3 : zAV) (y4 : zAV) (w54 : Int32) : zev zc0 G 1 krI (zEk 54 (.iconst 1) 1 w54 :: es) σ [vR 11 0, vR 200 i1, y2, y3, y4] [] = zev zc0 G 1 krI es σ [vR 11 0, vR 200 i1, y2, y3, y4] [vI w54] := rfl
theorem t_X11_stood_58 {G : Nat → zH → List zAV → List zAV → Option (zH × Int32)} (es : List zEnt) (σ : zH) (i1 : Nat) (y2 : zAV) (y3 : zAV) (y4 : zAV) (w58 : Int32) : zev zc0 G 1 krI (zEk 58 (.iconst 0) 1 w58 :: es) σ [vR 11 0, vR 200 i1, y2, y3, y4] [] = zev zc0 G 1 krI es σ [vR 11 0, vR 200 i1, y2, y3, y4] [vI w58] := rfl
theorem t_X11_stood_59 {G : Nat → zH → List zAV → List zAV → Option (zH × Int32)} (es : List zEnt) (σ : zH) (i1 : Nat) (xs0 : Int32) (y2 : zAV) (y3 : zAV) (y4 : zAV) (w60 : Int32) : zev zc0 G 1 krI (zE 59 (.istore_n 3) 1 :: zEk 60 (.iconst 0) 1 w60 :: zE 61 (.istore 4) 2 :: es) σ [vR 11 0, vR 200 i1, y2, y3, y4] [vI xs0] = zev zc0 G 1 krI es σ [vR 11 0, vR 200 i1, (zkp y2), vI xs0, vI w60] [] := rfl
theorem t_X11_stood_63 {G : Nat → zH → List zAV → List zAV → Option (zH × Int32)} (es : List zEnt) (σ : zH) (i1 : Nat) (x3 : Int32) (x4 : Int32) (y2 : zAV)  : zev zc0 G 1 krI (zE 63 (.iload 4) 2 :: zE 65 (.aload_n 1) 1 :: zEc 66 (.invokevirtual 222) 3 9000 0 1373 0 :: es) σ [vR 11 0, vR 200 i1, y2, vI x3, vI x4] [] = zev zc0 G 1 krI es σ [vR 11 0, vR 200 i1, y2, vI x3, vI x4] [vI (Int32.ofNat (zsN i1)), vI x4] := rfl
theorem t_X11_stood_72 {G : Nat → zH → List zAV → List zAV → Option (zH × Int32)} (es : List zEnt) (σ : zH) (i1 : Nat) (x3 : Int32) (x4 : Int32) (y2 : zAV)  : zev zc0 G 1 krI (zE 72 (.iload_n 3) 1 :: es) σ [vR 11 0, vR 200 i1, y2, vI x3, vI x4] [] = zev zc0 G 1 krI es σ [vR 11 0, vR 200 i1, y2, vI x3, vI x4] [vI x3] := rfl
theorem t_X11_stood_76 {G : Nat → zH → List zAV → List zAV → Option (zH × Int32)} (es : List zEnt) (σ : zH) (i1 : Nat) (x4 : Int32) (y2 : zAV) (y3 : zAV)  : zev zc0 G 1 krI (zE 76 (.aload_n 0) 1 :: zEf 77 (.getfield 101) 3 11 41 189 (2, 70, 0) :: zE 80 (.aload_n 0) 1 :: zEf 81 (.getfield 211) 3 11 31 179 (0, 0, 0) :: zE 84 (.iload 4) 2 :: zE 86 .iadd 1 :: es) σ [vR 11 0, vR 200 i1, y2, y3, vI x4] [] = zev zc0 G 1 krI es σ [vR 11 0, vR 200 i1, y2, y3, vI x4] [vI ((σ.1 11 0 31) + x4), vR 70 0] := rfl
theorem t_X11_stood_88 {G : Nat → zH → List zAV → List zAV → Option (zH × Int32)} (es : List zEnt) (σ : zH) (i1 : Nat) (x4 : Int32) (xs0 : Int32) (y2 : zAV) (y3 : zAV)  : zev zc0 G 1 krI (zE 88 (.aload_n 1) 1 :: zE 89 (.iload 4) 2 :: es) σ [vR 11 0, vR 200 i1, y2, y3, vI x4] [vI xs0] = zev zc0 G 1 krI es σ [vR 11 0, vR 200 i1, y2, y3, vI x4] [vI x4, vR 200 i1, vI xs0] := rfl
theorem t_X11_stood_97 {G : Nat → zH → List zAV → List zAV → Option (zH × Int32)} (es : List zEnt) (σ : zH) (i1 : Nat) (x4 : Int32) (y2 : zAV) (y3 : zAV) (w97 : Int32) : zev zc0 G 1 krI (zEk 97 (.iconst 1) 1 w97 :: es) σ [vR 11 0, vR 200 i1, y2, y3, vI x4] [] = zev zc0 G 1 krI es σ [vR 11 0, vR 200 i1, y2, y3, vI x4] [vI w97] := rfl
theorem t_X11_stood_101 {G : Nat → zH → List zAV → List zAV → Option (zH × Int32)} (es : List zEnt) (σ : zH) (i1 : Nat) (x4 : Int32) (y2 : zAV) (y3 : zAV) (w101 : Int32) : zev zc0 G 1 krI (zEk 101 (.iconst 0) 1 w101 :: es) σ [vR 11 0, vR 200 i1, y2, y3, vI x4] [] = zev zc0 G 1 krI es σ [vR 11 0, vR 200 i1, y2, y3, vI x4] [vI w101] := rfl
theorem t_X11_stood_102 {G : Nat → zH → List zAV → List zAV → Option (zH × Int32)} (es : List zEnt) (σ : zH) (i1 : Nat) (x4 : Int32) (xs0 : Int32) (y2 : zAV) (y3 : zAV) (w103 : Int32) : zev zc0 G 1 krI (zE 102 (.istore_n 3) 1 :: zEk 103 (.iinc 4 1) 3 w103 :: es) σ [vR 11 0, vR 200 i1, y2, y3, vI x4] [vI xs0] = zev zc0 G 1 krI es σ [vR 11 0, vR 200 i1, (zkp y2), vI xs0, vI (x4 + w103)] [] := rfl
theorem t_X11_stood_109 {G : Nat → zH → List zAV → List zAV → Option (zH × Int32)} (es : List zEnt) (σ : zH) (x3 : Int32) (y0 : zAV) (y1 : zAV) (y2 : zAV) (y4 : zAV)  : zev zc0 G 1 krI (zE 109 (.iload_n 3) 1 :: es) σ [y0, y1, y2, vI x3, y4] [] = zev zc0 G 1 krI es σ [y0, y1, y2, vI x3, y4] [vI x3] := rfl
noncomputable def k_X11_stood_5 (c41 : zH → Nat → Int32 → Option (zH × Int32)) : Nat → zH → Nat → Int32 → Option (zH × Int32)
  | 0, _, _, _ => none
  | n + 1, σ, i1, x2 =>
    if x2 < (σ.1 11 0 30) then
      ix x2 400 fun j1 =>
      if (σ.1 70 0 j1) < (97 : Int32) then
        c41 σ i1 x2
      else
        ix x2 400 fun j2 =>
        if (122 : Int32) < (σ.1 70 0 j2) then
          c41 σ i1 x2
        else
          (k_X11_stood_5 c41 n) σ i1 (x2 + (1 : Int32))
    else
      c41 σ i1 x2
theorem e_X11_stood_5 (c41 : zH → Nat → Int32 → Option (zH × Int32)) (n : Nat) (σ : zH) (i1 : Nat) (x2 : Int32) (y3 : zAV) (y4 : zAV) : k_X11_stood_5 c41 (n + 1) σ i1 x2 = zin zc0 (fun t => if t = 5 then some (gl_X11_stood_5 (k_X11_stood_5 c41 n)) else if t = 41 then some (gl_X11_stood_41 c41) else none) 1 krI b_X11_stood 5 σ [vR 11 0, vR 200 i1, vI x2, y3, y4] [] := by
  rw [k_X11_stood_5]
  refine Eq.symm ((zin_b (es := q_X11_stood_5) rfl).trans ?_)
  refine (t_X11_stood_5 _ _ _ _ _ _).trans ?_
  refine x_icmp.trans (pif_ge ?_ ?_)
  · exact (zrun_c rfl).trans (glr_X11_stood_41 _ _ _ _ _ _)
  · refine (t_X11_stood_13 _ _ _ _ _ _).trans ?_
    refine (x_bald (N := 400) rfl rfl).trans (pix fun _ => ?_)
    refine (t_X11_stood_19 _ _ _ _ _ _ _ _).trans ?_
    refine x_icmp.trans (pif_lt ?_ ?_)
    · exact (zrun_c rfl).trans (glr_X11_stood_41 _ _ _ _ _ _)
    · refine (t_X11_stood_24 _ _ _ _ _ _).trans ?_
      refine (x_bald (N := 400) rfl rfl).trans (pix fun _ => ?_)
      refine (t_X11_stood_30 _ _ _ _ _ _ _ _).trans ?_
      refine x_icmp.trans (pif_gt ?_ ?_)
      · exact (zrun_c rfl).trans (glr_X11_stood_41 _ _ _ _ _ _)
      · refine (t_X11_stood_35 _ _ _ _ _ _ _).trans ?_
        refine x_goto.trans ?_
        exact (zrun_c rfl).trans (glr_X11_stood_5 _ _ _ _ _ _)
theorem s_X11_stood_5 {X : zX} (hX : zHX X) {c41 : zH → Nat → Int32 → Option (zH × Int32)} (h41 : ∀ σ L st r, gl_X11_stood_41 c41 σ L st = some r → zGW X 141 krI 41 σ L st r) : ∀ n σ L st r, gl_X11_stood_5 (k_X11_stood_5 c41 n) σ L st = some r → zGW X 141 krI 5 σ L st r := by
  intro n
  induction n with
  | zero =>
    intro σ L st r h
    unfold gl_X11_stood_5 at h
    split at h <;> cases h
  | succ n ih =>
    intro σ L st r h
    unfold gl_X11_stood_5 at h
    split at h
    · exact zin_ok (hy_X11_stood hX) bk_X11_stood (fun t f hf => by
      by_cases e5 : t = 5
      · rw [if_pos e5] at hf; subst e5; cases hf; exact ih
      rw [if_neg e5] at hf
      by_cases e41 : t = 41
      · rw [if_pos e41] at hf; subst e41; cases hf; exact h41
      rw [if_neg e41] at hf
      cases hf) ((e_X11_stood_5 _ _ _ _ _ _ _).symm.trans h)
    · cases h
noncomputable def j_X11_stood_102 (c63 : zH → Nat → Int32 → Int32 → Option (zH × Int32)) (σ : zH) (i1 : Nat) (x4 : Int32) (xs0 : Int32) : Option (zH × Int32) :=
  c63 σ i1 xs0 (x4 + (1 : Int32))
theorem e_X11_stood_102 (c63 : zH → Nat → Int32 → Int32 → Option (zH × Int32)) (σ : zH) (i1 : Nat) (x4 : Int32) (xs0 : Int32) (y2 : zAV) (y3 : zAV) : j_X11_stood_102 c63 σ i1 x4 xs0 = zin zc0 (fun t => if t = 63 then some (gl_X11_stood_63 c63) else none) 1 krI b_X11_stood 102 σ [vR 11 0, vR 200 i1, y2, y3, vI x4] [vI xs0] := by
  unfold j_X11_stood_102
  refine Eq.symm ((zin_b (es := q_X11_stood_102) rfl).trans ?_)
  refine (t_X11_stood_102 _ _ _ _ _ _ _ _).trans ?_
  refine x_goto.trans ?_
  exact (zrun_c rfl).trans (glr_X11_stood_63 _ _ _ _ _ _)
theorem s_X11_stood_102 {X : zX} (hX : zHX X) {c63 : zH → Nat → Int32 → Int32 → Option (zH × Int32)} (h63 : ∀ σ L st r, gl_X11_stood_63 c63 σ L st = some r → zGW X 141 krI 63 σ L st r) : ∀ σ L st r, gl_X11_stood_102 (j_X11_stood_102 c63) σ L st = some r → zGW X 141 krI 102 σ L st r := by
  intro σ L st r h
  unfold gl_X11_stood_102 at h
  split at h
  · exact zin_ok (hy_X11_stood hX) bk_X11_stood (fun t f hf => by
    by_cases e63 : t = 63
    · rw [if_pos e63] at hf; subst e63; cases hf; exact h63
    rw [if_neg e63] at hf
    cases hf) ((e_X11_stood_102 _ _ _ _ _ _ _).symm.trans h)
  · cases h
noncomputable def k_X11_stood_63  : Nat → zH → Nat → Int32 → Int32 → Option (zH × Int32)
  | 0, _, _, _, _ => none
  | n + 1, σ, i1, x3, x4 =>
    if x4 < (Int32.ofNat (zsN i1)) then
      if x3 = 0 then
        tv x3 <| some (σ, x3)
      else
        ix ((σ.1 11 0 31) + x4) 400 fun j1 =>
        ix x4 (zsN i1) fun j2 =>
        if (σ.1 70 0 j1) = (zsC i1 j2) then
          (j_X11_stood_102 (k_X11_stood_63 n)) σ i1 x4 (1 : Int32)
        else
          (j_X11_stood_102 (k_X11_stood_63 n)) σ i1 x4 (0 : Int32)
    else
      tv x3 <| some (σ, x3)
theorem e_X11_stood_63  (n : Nat) (σ : zH) (i1 : Nat) (x3 : Int32) (x4 : Int32) (y2 : zAV) : k_X11_stood_63 (n + 1) σ i1 x3 x4 = zin zc0 (fun t => if t = 102 then some (gl_X11_stood_102 (j_X11_stood_102 (k_X11_stood_63 n))) else none) 1 krI b_X11_stood 63 σ [vR 11 0, vR 200 i1, y2, vI x3, vI x4] [] := by
  rw [k_X11_stood_63]
  refine Eq.symm ((zin_b (es := q_X11_stood_63) rfl).trans ?_)
  refine (t_X11_stood_63 _ _ _ _ _ _).trans ?_
  refine x_icmp.trans (pif_ge ?_ ?_)
  · refine (zrun_b (es := q_X11_stood_109) rfl rfl).trans ?_
    refine (t_X11_stood_109 _ _ _ _ _ _ _).trans ?_
    exact x_zret
  · refine (t_X11_stood_72 _ _ _ _ _ _).trans ?_
    refine x_if.trans (pif_eq ?_ ?_)
    · refine (zrun_b (es := q_X11_stood_109) rfl rfl).trans ?_
      refine (t_X11_stood_109 _ _ _ _ _ _ _).trans ?_
      exact x_zret
    · refine (t_X11_stood_76 _ _ _ _ _ _).trans ?_
      refine (x_bald (N := 400) rfl rfl).trans (pix fun _ => ?_)
      refine (t_X11_stood_88 _ _ _ _ _ _ _).trans ?_
      refine (x_char rfl).trans (pix fun _ => ?_)
      refine x_icmp.trans (pif_ne ?_ ?_)
      · refine (zrun_b (es := q_X11_stood_101) rfl rfl).trans ?_
        refine (t_X11_stood_101 _ _ _ _ _ _ _).trans ?_
        refine x_cut.trans ?_
        exact (zrun_c rfl).trans (glr_X11_stood_102 _ _ _ _ _ _ _)
      · refine (t_X11_stood_97 _ _ _ _ _ _ _).trans ?_
        refine x_goto.trans ?_
        exact (zrun_c rfl).trans (glr_X11_stood_102 _ _ _ _ _ _ _)
theorem s_X11_stood_63 {X : zX} (hX : zHX X)   : ∀ n σ L st r, gl_X11_stood_63 (k_X11_stood_63 n) σ L st = some r → zGW X 141 krI 63 σ L st r := by
  intro n
  induction n with
  | zero =>
    intro σ L st r h
    unfold gl_X11_stood_63 at h
    split at h <;> cases h
  | succ n ih =>
    intro σ L st r h
    unfold gl_X11_stood_63 at h
    split at h
    · exact zin_ok (hy_X11_stood hX) bk_X11_stood (fun t f hf => by
      by_cases e102 : t = 102
      · rw [if_pos e102] at hf; subst e102; cases hf; exact (s_X11_stood_102 hX ih)
      rw [if_neg e102] at hf
      cases hf) ((e_X11_stood_63 _ _ _ _ _ _).symm.trans h)
    · cases h
noncomputable def j_X11_stood_59  (σ : zH) (i1 : Nat) (xs0 : Int32) : Option (zH × Int32) :=
  (k_X11_stood_63 zN) σ i1 xs0 (0 : Int32)
theorem e_X11_stood_59  (σ : zH) (i1 : Nat) (xs0 : Int32) (y2 : zAV) (y3 : zAV) (y4 : zAV) : j_X11_stood_59 σ i1 xs0 = zin zc0 (fun t => if t = 63 then some (gl_X11_stood_63 (k_X11_stood_63 zN)) else none) 1 krI b_X11_stood 59 σ [vR 11 0, vR 200 i1, y2, y3, y4] [vI xs0] := by
  unfold j_X11_stood_59
  refine Eq.symm ((zin_b (es := q_X11_stood_59) rfl).trans ?_)
  refine (t_X11_stood_59 _ _ _ _ _ _ _ _).trans ?_
  refine x_cut.trans ?_
  exact (zrun_c rfl).trans (glr_X11_stood_63 _ _ _ _ _ _)
theorem s_X11_stood_59 {X : zX} (hX : zHX X)   : ∀ σ L st r, gl_X11_stood_59 j_X11_stood_59 σ L st = some r → zGW X 141 krI 59 σ L st r := by
  intro σ L st r h
  unfold gl_X11_stood_59 at h
  split at h
  · exact zin_ok (hy_X11_stood hX) bk_X11_stood (fun t f hf => by
    by_cases e63 : t = 63
    · rw [if_pos e63] at hf; subst e63; cases hf; exact ((fun σ L st r h => s_X11_stood_63 hX  zN σ L st r h))
    rw [if_neg e63] at hf
    cases hf) ((e_X11_stood_59 _ _ _ _ _ _).symm.trans h)
  · cases h
noncomputable def j_X11_stood_41  (σ : zH) (i1 : Nat) (x2 : Int32) : Option (zH × Int32) :=
  if (x2 - (σ.1 11 0 31)) = (Int32.ofNat (zsN i1)) then
    j_X11_stood_59 σ i1 (1 : Int32)
  else
    j_X11_stood_59 σ i1 (0 : Int32)
theorem e_X11_stood_41  (σ : zH) (i1 : Nat) (x2 : Int32) (y3 : zAV) (y4 : zAV) : j_X11_stood_41 σ i1 x2 = zin zc0 (fun t => if t = 59 then some (gl_X11_stood_59 j_X11_stood_59) else none) 1 krI b_X11_stood 41 σ [vR 11 0, vR 200 i1, vI x2, y3, y4] [] := by
  unfold j_X11_stood_41
  refine Eq.symm ((zin_b (es := q_X11_stood_41) rfl).trans ?_)
  refine (t_X11_stood_41 _ _ _ _ _ _).trans ?_
  refine x_icmp.trans (pif_ne ?_ ?_)
  · refine (zrun_b (es := q_X11_stood_58) rfl rfl).trans ?_
    refine (t_X11_stood_58 _ _ _ _ _ _ _).trans ?_
    refine x_cut.trans ?_
    exact (zrun_c rfl).trans (glr_X11_stood_59 _ _ _ _ _ _ _)
  · refine (t_X11_stood_54 _ _ _ _ _ _ _).trans ?_
    refine x_goto.trans ?_
    exact (zrun_c rfl).trans (glr_X11_stood_59 _ _ _ _ _ _ _)
theorem s_X11_stood_41 {X : zX} (hX : zHX X)   : ∀ σ L st r, gl_X11_stood_41 j_X11_stood_41 σ L st = some r → zGW X 141 krI 41 σ L st r := by
  intro σ L st r h
  unfold gl_X11_stood_41 at h
  split at h
  · exact zin_ok (hy_X11_stood hX) bk_X11_stood (fun t f hf => by
    by_cases e59 : t = 59
    · rw [if_pos e59] at hf; subst e59; cases hf; exact (s_X11_stood_59 hX)
    rw [if_neg e59] at hf
    cases hf) ((e_X11_stood_41 _ _ _ _ _).symm.trans h)
  · cases h
noncomputable def d_X11_stood (σ : zH) (ia1 : Nat) : Option (zH × Int32) :=
  (k_X11_stood_5 j_X11_stood_41 zN) σ ia1 (σ.1 11 0 31)
theorem e_X11_stood (σ : zH) (ia1 : Nat) : d_X11_stood σ ia1 = zin zc0 (fun t => if t = 5 then some (gl_X11_stood_5 (k_X11_stood_5 j_X11_stood_41 zN)) else none) 1 krI b_X11_stood 0 σ [vR 11 0, vR 200 ia1, vU, vU, vU] [] := by
  unfold d_X11_stood
  refine Eq.symm ((zin_b (es := q_X11_stood_0) rfl).trans ?_)
  refine (t_X11_stood_0 _ _ _ _ _ _).trans ?_
  refine x_cut.trans ?_
  exact (zrun_c rfl).trans (glr_X11_stood_5 _ _ _ _ _ _)
noncomputable def g_X11_stood {ρ : Type} (σ : zH) (av : List zAV) (q : zH → zAV → Option ρ) : Option ρ := match av with
  | [.inr (.inr (.inl (11, 0))), .inr (.inr (.inl (200, ia1)))] => (d_X11_stood σ ia1).bind fun p => q p.1 (vI p.2)
  | _ => none
theorem gr_X11_stood {ρ : Type} (σ : zH) (ia1 : Nat) (q : zH → zAV → Option ρ) : g_X11_stood σ [vR 11 0, vR 200 ia1] q = (d_X11_stood σ ia1).bind fun p => q p.1 (vI p.2) := rfl
theorem c_X11_stood {ρ : Type} {X : zX} (hX : zHX X) {σ : zH} {av : List zAV} {q : zH → zAV → Option ρ} {r : ρ} (h : g_X11_stood σ av q = some r) (hv : ∀ a ∈ av, zval X a) : zcon X 141 σ av q r := by
  unfold g_X11_stood at h
  split at h
  · exact zcon_I (n := 141) (ml := 5) (rc := 1) (st := 0) (kd := 11) (np := 1) (by decide +kernel) (by decide) ⟨_, _, rfl, rfl⟩ (Nat.le_of_ble_eq_true rfl) hv h (fun y h1 => (zin_ok (hy_X11_stood hX) bk_X11_stood (fun t f hf => by
      by_cases e5 : t = 5
      · rw [if_pos e5] at hf; subst e5; cases hf; exact ((fun σ L st r h => s_X11_stood_5 hX (s_X11_stood_41 hX) zN σ L st r h))
      rw [if_neg e5] at hf
      cases hf) ((e_X11_stood _ _).symm.trans h1)))
  · cases h
/-! SleepWavesModel.entry(II)V -/
def q_X11_entry_55 : List zEnt := zE 55 .return_ 1 :: []
def q_X11_entry_52 : List zEnt := zEf 52 (.putfield 240) 3 11 35 183 (0, 0, 0) :: q_X11_entry_55
def q_X11_entry_45 : List zEnt := zE 45 (.aload_n 0) 1 :: zE 46 .dup 1 :: zEf 47 (.getfield 240) 3 11 35 183 (0, 0, 0) :: zEk 50 (.iconst 1) 1 1 :: zE 51 .iadd 1 :: q_X11_entry_52
def q_X11_entry_44 : List zEnt := zE 44 .iastore 1 :: q_X11_entry_45
def q_X11_entry_26 : List zEnt := zE 26 (.aload_n 0) 1 :: zEf 27 (.getfield 108) 3 11 43 191 (2, 72, 0) :: zEk 30 (.sipush 300) 3 300 :: zE 33 (.aload_n 0) 1 :: zEf 34 (.getfield 237) 3 11 33 181 (0, 0, 0) :: zE 37 .imul 1 :: zE 38 (.aload_n 0) 1 :: zEf 39 (.getfield 240) 3 11 35 183 (0, 0, 0) :: zE 42 .iadd 1 :: zE 43 (.iload_n 2) 1 :: q_X11_entry_44
def q_X11_entry_25 : List zEnt := zE 25 .iastore 1 :: q_X11_entry_26
def q_X11_entry_7 : List zEnt := zE 7 (.aload_n 0) 1 :: zEf 8 (.getfield 105) 3 11 42 190 (2, 71, 0) :: zEk 11 (.sipush 300) 3 300 :: zE 14 (.aload_n 0) 1 :: zEf 15 (.getfield 237) 3 11 33 181 (0, 0, 0) :: zE 18 .imul 1 :: zE 19 (.aload_n 0) 1 :: zEf 20 (.getfield 240) 3 11 35 183 (0, 0, 0) :: zE 23 .iadd 1 :: zE 24 (.iload_n 1) 1 :: q_X11_entry_25
def q_X11_entry_4 : List zEnt := zEa 4 (.ifCond .ne 51) 3 55 :: q_X11_entry_7
def q_X11_entry_0 : List zEnt := zE 0 (.aload_n 0) 1 :: zEf 1 (.getfield 208) 3 11 32 180 (0, 0, 0) :: q_X11_entry_4
def b_X11_entry : List (Nat × List zEnt) := [(0, q_X11_entry_0), (55, q_X11_entry_55)]
theorem bk_X11_entry : zchB 142 b_X11_entry = true := by decide +kernel
theorem hy_X11_entry {ρ : Type} {X : zX} (hX : zHX X) : zHY X 142 (zc0 (ρ := ρ)) := zHX.hY hX (zc0_ok X) (zmok_all 142 (by decide))
theorem t_X11_entry_0 {G : Nat → zH → List zAV → List zAV → Option zH} (es : List zEnt) (σ : zH) (x1 : Int32) (x2 : Int32)   : zev zc0 G 9 krV (zE 0 (.aload_n 0) 1 :: zEf 1 (.getfield 208) 3 11 32 180 (0, 0, 0) :: es) σ [vR 11 0, vI x1, vI x2] [] = zev zc0 G 9 krV es σ [vR 11 0, vI x1, vI x2] [vI (σ.1 11 0 32)] := rfl
theorem t_X11_entry_7 {G : Nat → zH → List zAV → List zAV → Option zH} (es : List zEnt) (σ : zH) (x1 : Int32) (x2 : Int32)  (w11 : Int32) : zev zc0 G 9 krV (zE 7 (.aload_n 0) 1 :: zEf 8 (.getfield 105) 3 11 42 190 (2, 71, 0) :: zEk 11 (.sipush 300) 3 w11 :: zE 14 (.aload_n 0) 1 :: zEf 15 (.getfield 237) 3 11 33 181 (0, 0, 0) :: zE 18 .imul 1 :: zE 19 (.aload_n 0) 1 :: zEf 20 (.getfield 240) 3 11 35 183 (0, 0, 0) :: zE 23 .iadd 1 :: zE 24 (.iload_n 1) 1 :: es) σ [vR 11 0, vI x1, vI x2] [] = zev zc0 G 9 krV es σ [vR 11 0, vI x1, vI x2] [vI x1, vI ((w11 * (σ.1 11 0 33)) + (σ.1 11 0 35)), vR 71 0] := rfl
theorem t_X11_entry_26 {G : Nat → zH → List zAV → List zAV → Option zH} (es : List zEnt) (σ : zH) (x2 : Int32) (y1 : zAV) (w30 : Int32) : zev zc0 G 9 krV (zE 26 (.aload_n 0) 1 :: zEf 27 (.getfield 108) 3 11 43 191 (2, 72, 0) :: zEk 30 (.sipush 300) 3 w30 :: zE 33 (.aload_n 0) 1 :: zEf 34 (.getfield 237) 3 11 33 181 (0, 0, 0) :: zE 37 .imul 1 :: zE 38 (.aload_n 0) 1 :: zEf 39 (.getfield 240) 3 11 35 183 (0, 0, 0) :: zE 42 .iadd 1 :: zE 43 (.iload_n 2) 1 :: es) σ [vR 11 0, y1, vI x2] [] = zev zc0 G 9 krV es σ [vR 11 0, y1, vI x2] [vI x2, vI ((w30 * (σ.1 11 0 33)) + (σ.1 11 0 35)), vR 72 0] := rfl
theorem t_X11_entry_45 {G : Nat → zH → List zAV → List zAV → Option zH} (es : List zEnt) (σ : zH)  (y1 : zAV) (y2 : zAV) (w50 : Int32) : zev zc0 G 9 krV (zE 45 (.aload_n 0) 1 :: zE 46 .dup 1 :: zEf 47 (.getfield 240) 3 11 35 183 (0, 0, 0) :: zEk 50 (.iconst 1) 1 w50 :: zE 51 .iadd 1 :: es) σ [vR 11 0, y1, y2] [] = zev zc0 G 9 krV es σ [vR 11 0, y1, y2] [vI ((σ.1 11 0 35) + w50), vR 11 0] := rfl
noncomputable def d_X11_entry (σ : zH) (xa1 : Int32) (xa2 : Int32) : Option zH :=
  if (σ.1 11 0 32) = 0 then
    ix (((300 : Int32) * (σ.1 11 0 33)) + (σ.1 11 0 35)) 1800 fun j5 =>
    zlet (uI σ 71 0 j5 xa1) fun σ1 =>
    ix (((300 : Int32) * (σ1.1 11 0 33)) + (σ1.1 11 0 35)) 1800 fun j4 =>
    zlet (uI σ1 72 0 j4 xa2) fun σ2 =>
    zlet (uI σ2 11 0 35 ((σ2.1 11 0 35) + (1 : Int32))) fun σ3 =>
    some σ3
  else
    some σ
theorem e_X11_entry (σ : zH) (xa1 : Int32) (xa2 : Int32) : d_X11_entry σ xa1 xa2 = zin zc0 (fun t => none) 9 krV b_X11_entry 0 σ [vR 11 0, vI xa1, vI xa2] [] := by
  unfold d_X11_entry
  refine Eq.symm ((zin_b (es := q_X11_entry_0) rfl).trans ?_)
  refine (t_X11_entry_0 _ _ _ _).trans ?_
  refine x_if.trans (pif_ne ?_ ?_)
  · refine (zrun_b (es := q_X11_entry_55) rfl rfl).trans ?_
    exact x_vret
  · refine (t_X11_entry_7 _ _ _ _ _).trans ?_
    refine (x_iast (N := 1800) rfl rfl).trans (pix fun _ => plt fun _ => ?_)
    refine (t_X11_entry_26 _ _ _ _ _).trans ?_
    refine (x_iast (N := 1800) rfl rfl).trans (pix fun _ => plt fun _ => ?_)
    refine (t_X11_entry_45 _ _ _ _ _).trans ?_
    refine x_pf0.trans (plt fun _ => ?_)
    exact x_vret
noncomputable def g_X11_entry {ρ : Type} (σ : zH) (av : List zAV) (q : zH → zAV → Option ρ) : Option ρ := match av with
  | [.inr (.inr (.inl (11, 0))), .inl xa1, .inl xa2] => (d_X11_entry σ xa1 xa2).bind fun σ => q σ vU
  | _ => none
theorem gr_X11_entry {ρ : Type} (σ : zH) (xa1 : Int32) (xa2 : Int32) (q : zH → zAV → Option ρ) : g_X11_entry σ [vR 11 0, vI xa1, vI xa2] q = (d_X11_entry σ xa1 xa2).bind fun σ => q σ vU := rfl
theorem c_X11_entry {ρ : Type} {X : zX} (hX : zHX X) {σ : zH} {av : List zAV} {q : zH → zAV → Option ρ} {r : ρ} (h : g_X11_entry σ av q = some r) (hv : ∀ a ∈ av, zval X a) : zcon X 142 σ av q r := by
  unfold g_X11_entry at h
  split at h
  · exact zcon_V (n := 142) (ml := 3) (rc := 9) (st := 0) (kd := 11) (np := 2) (by decide +kernel) rfl ⟨_, _, rfl, rfl⟩ (Nat.le_of_ble_eq_true rfl) hv h (fun y h1 => (zin_ok (hy_X11_entry hX) bk_X11_entry (fun t f hf => by
      cases hf) ((e_X11_entry _ _ _).symm.trans h1)))
  · cases h
/-! SleepWavesModel.isCounted(I)V -/
def q_X11_isCounted_12 : List zEnt := zEc 12 (.invokevirtual 246) 3 137 3 123 1 :: [zE 15 .nop 0]
def q_X11_isCounted_9 : List zEnt := zE 9 (.aload_n 0) 1 :: zEk 10 (.iconst 3) 1 3 :: zE 11 (.iload_n 1) 1 :: q_X11_isCounted_12
def q_X11_isCounted_6 : List zEnt := zEa 6 (.if_icmp .ne 9) 3 15 :: q_X11_isCounted_9
def q_X11_isCounted_0 : List zEnt := zE 0 (.aload_n 0) 1 :: zEf 1 (.getfield 243) 3 11 37 185 (0, 0, 0) :: zEk 4 (.bipush 60) 2 60 :: q_X11_isCounted_6
def q_X11_isCounted_25 : List zEnt := zE 25 .return_ 1 :: []
def q_X11_isCounted_22 : List zEnt := zEf 22 (.putfield 243) 3 11 37 185 (0, 0, 0) :: q_X11_isCounted_25
def q_X11_isCounted_15 : List zEnt := zE 15 (.aload_n 0) 1 :: zE 16 .dup 1 :: zEf 17 (.getfield 243) 3 11 37 185 (0, 0, 0) :: zEk 20 (.iconst 1) 1 1 :: zE 21 .iadd 1 :: q_X11_isCounted_22
def b_X11_isCounted : List (Nat × List zEnt) := [(0, q_X11_isCounted_0), (15, q_X11_isCounted_15)]
theorem bk_X11_isCounted : zchB 143 b_X11_isCounted = true := by decide +kernel
noncomputable def cc_X11_isCounted {ρ : Type} : Nat → zH → List zAV → (zH → zAV → Option ρ) → Option ρ := fun n σ av q => if n = 137 then g_X11_fails σ av q else none
theorem cs_X11_isCounted {ρ : Type} {X : zX} (hX : zHX X) : zCS X (cc_X11_isCounted (ρ := ρ)) := by
  intro n σ av q r h hv
  unfold cc_X11_isCounted at h
  by_cases e_X11_fails : n = 137
  · rw [if_pos e_X11_fails] at h
    subst e_X11_fails
    exact c_X11_fails hX h hv
  rw [if_neg e_X11_fails] at h
  cases h
theorem cl_X11_isCounted_X11_fails {ρ : Type} (σ : zH) (av : List zAV) (q : zH → zAV → Option ρ) : cc_X11_isCounted 137 σ av q = g_X11_fails σ av q := rfl
theorem hy_X11_isCounted {ρ : Type} {X : zX} (hX : zHX X) : zHY X 143 (cc_X11_isCounted (ρ := ρ)) := zHX.hY hX (cs_X11_isCounted hX) (zmok_all 143 (by decide))
def gl_X11_isCounted_15 {ρ : Type} (f : zH → Option ρ) (σ : zH) (L st : List zAV) : Option ρ := match L, st with
  | [.inr (.inr (.inl (11, 0))), _], [] => f σ
  | _, _ => none
theorem glr_X11_isCounted_15 {ρ : Type} (f : zH → Option ρ) (σ : zH)  (y1 : zAV) : gl_X11_isCounted_15 f σ [vR 11 0, y1] [] = f σ := rfl
theorem t_X11_isCounted_0 {G : Nat → zH → List zAV → List zAV → Option zH} (es : List zEnt) (σ : zH) (x1 : Int32)  (w4 : Int32) : zev cc_X11_isCounted G 9 krV (zE 0 (.aload_n 0) 1 :: zEf 1 (.getfield 243) 3 11 37 185 (0, 0, 0) :: zEk 4 (.bipush 60) 2 w4 :: es) σ [vR 11 0, vI x1] [] = zev cc_X11_isCounted G 9 krV es σ [vR 11 0, vI x1] [vI w4, vI (σ.1 11 0 37)] := rfl
theorem t_X11_isCounted_9 {G : Nat → zH → List zAV → List zAV → Option zH} (es : List zEnt) (σ : zH) (x1 : Int32)  (w10 : Int32) : zev cc_X11_isCounted G 9 krV (zE 9 (.aload_n 0) 1 :: zEk 10 (.iconst 3) 1 w10 :: zE 11 (.iload_n 1) 1 :: es) σ [vR 11 0, vI x1] [] = zev cc_X11_isCounted G 9 krV es σ [vR 11 0, vI x1] [vI x1, vI w10, vR 11 0] := rfl
theorem t_X11_isCounted_15 {G : Nat → zH → List zAV → List zAV → Option zH} (es : List zEnt) (σ : zH)  (y1 : zAV) (w20 : Int32) : zev cc_X11_isCounted G 9 krV (zE 15 (.aload_n 0) 1 :: zE 16 .dup 1 :: zEf 17 (.getfield 243) 3 11 37 185 (0, 0, 0) :: zEk 20 (.iconst 1) 1 w20 :: zE 21 .iadd 1 :: es) σ [vR 11 0, y1] [] = zev cc_X11_isCounted G 9 krV es σ [vR 11 0, y1] [vI ((σ.1 11 0 37) + w20), vR 11 0] := rfl
noncomputable def j_X11_isCounted_15  (σ : zH)  : Option zH :=
  zlet (uI σ 11 0 37 ((σ.1 11 0 37) + (1 : Int32))) fun σ1 =>
  some σ1
theorem e_X11_isCounted_15  (σ : zH)  (y1 : zAV) : j_X11_isCounted_15 σ = zin cc_X11_isCounted (fun t => none) 9 krV b_X11_isCounted 15 σ [vR 11 0, y1] [] := by
  unfold j_X11_isCounted_15
  refine Eq.symm ((zin_b (es := q_X11_isCounted_15) rfl).trans ?_)
  refine (t_X11_isCounted_15 _ _ _ _).trans ?_
  refine x_pf0.trans (plt fun _ => ?_)
  exact x_vret
theorem s_X11_isCounted_15 {X : zX} (hX : zHX X)   : ∀ σ L st r, gl_X11_isCounted_15 j_X11_isCounted_15 σ L st = some r → zGW X 143 krV 15 σ L st r := by
  intro σ L st r h
  unfold gl_X11_isCounted_15 at h
  split at h
  · exact zin_ok (hy_X11_isCounted hX) bk_X11_isCounted (fun t f hf => by
    cases hf) ((e_X11_isCounted_15 _ _).symm.trans h)
  · cases h
noncomputable def d_X11_isCounted (σ : zH) (xa1 : Int32) : Option zH :=
  if (σ.1 11 0 37) = (60 : Int32) then
    (d_X11_fails σ (3 : Int32) xa1).bind fun σ1 =>
    j_X11_isCounted_15 σ1
  else
    j_X11_isCounted_15 σ
theorem e_X11_isCounted (σ : zH) (xa1 : Int32) : d_X11_isCounted σ xa1 = zin cc_X11_isCounted (fun t => if t = 15 then some (gl_X11_isCounted_15 j_X11_isCounted_15) else none) 9 krV b_X11_isCounted 0 σ [vR 11 0, vI xa1] [] := by
  unfold d_X11_isCounted
  refine Eq.symm ((zin_b (es := q_X11_isCounted_0) rfl).trans ?_)
  refine (t_X11_isCounted_0 _ _ _ _).trans ?_
  refine x_icmp.trans (pif_ne ?_ ?_)
  · exact (zrun_c rfl).trans (glr_X11_isCounted_15 _ _ _)
  · refine (t_X11_isCounted_9 _ _ _ _).trans ?_
    refine (x_callV rfl rfl rfl rfl).trans ((cl_X11_isCounted_X11_fails _ _ _).trans ((gr_X11_fails _ _ _ _).trans (pbd fun _ => ?_)))
    refine x_cut.trans ?_
    exact (zrun_c rfl).trans (glr_X11_isCounted_15 _ _ _)
noncomputable def g_X11_isCounted {ρ : Type} (σ : zH) (av : List zAV) (q : zH → zAV → Option ρ) : Option ρ := match av with
  | [.inr (.inr (.inl (11, 0))), .inl xa1] => (d_X11_isCounted σ xa1).bind fun σ => q σ vU
  | _ => none
theorem gr_X11_isCounted {ρ : Type} (σ : zH) (xa1 : Int32) (q : zH → zAV → Option ρ) : g_X11_isCounted σ [vR 11 0, vI xa1] q = (d_X11_isCounted σ xa1).bind fun σ => q σ vU := rfl
theorem c_X11_isCounted {ρ : Type} {X : zX} (hX : zHX X) {σ : zH} {av : List zAV} {q : zH → zAV → Option ρ} {r : ρ} (h : g_X11_isCounted σ av q = some r) (hv : ∀ a ∈ av, zval X a) : zcon X 143 σ av q r := by
  unfold g_X11_isCounted at h
  split at h
  · exact zcon_V (n := 143) (ml := 2) (rc := 9) (st := 0) (kd := 11) (np := 1) (by decide +kernel) rfl ⟨_, _, rfl, rfl⟩ (Nat.le_of_ble_eq_true rfl) hv h (fun y h1 => (zin_ok (hy_X11_isCounted hX) bk_X11_isCounted (fun t f hf => by
      by_cases e15 : t = 15
      · rw [if_pos e15] at hf; subst e15; cases hf; exact (s_X11_isCounted_15 hX)
      rw [if_neg e15] at hf
      cases hf) ((e_X11_isCounted _ _).symm.trans h1)))
  · cases h
/-! SleepWavesModel.digits(I)I -/
def q_X11_digits_17 : List zEnt := zE 17 .ireturn 1 :: []
def q_X11_digits_16 : List zEnt := zEk 16 (.iconst 0) 1 0 :: q_X11_digits_17
def q_X11_digits_13 : List zEnt := zEc 13 (.invokevirtual 246) 3 137 3 123 1 :: q_X11_digits_16
def q_X11_digits_7 : List zEnt := zE 7 (.aload_n 0) 1 :: zEk 8 (.iconst 0) 1 0 :: zE 9 (.aload_n 0) 1 :: zEf 10 (.getfield 211) 3 11 31 179 (0, 0, 0) :: q_X11_digits_13
def q_X11_digits_4 : List zEnt := zEa 4 (.ifCond .ne 14) 3 18 :: q_X11_digits_7
def q_X11_digits_1 : List zEnt := zEc 1 (.invokevirtual 250) 3 140 1 128 0 :: q_X11_digits_4
def q_X11_digits_0 : List zEnt := zE 0 (.aload_n 0) 1 :: q_X11_digits_1
def q_X11_digits_18 : List zEnt := zE 18 (.aload_n 0) 1 :: zEf 19 (.getfield 211) 3 11 31 179 (0, 0, 0) :: zE 22 (.istore_n 2) 1 :: zEk 23 (.iconst 0) 1 0 :: zE 24 (.istore_n 3) 1 :: [zE 25 .nop 0]
def q_X11_digits_54 : List zEnt := zEa 54 (.goto 4) 3 58 :: []
def q_X11_digits_50 : List zEnt := zE 50 .iadd 1 :: zEk 51 (.bipush 48) 2 48 :: zE 53 .isub 1 :: q_X11_digits_54
def q_X11_digits_47 : List zEnt := zEc 47 (.invokevirtual 214) 3 138 1 120 0 :: q_X11_digits_50
def q_X11_digits_42 : List zEnt := zEk 42 (.bipush 10) 2 10 :: zE 44 (.iload_n 3) 1 :: zE 45 .imul 1 :: zE 46 (.aload_n 0) 1 :: q_X11_digits_47
def q_X11_digits_39 : List zEnt := zEa 39 (.if_icmp .ge 18) 3 57 :: q_X11_digits_42
def q_X11_digits_32 : List zEnt := zE 32 (.aload_n 0) 1 :: zEf 33 (.getfield 211) 3 11 31 179 (0, 0, 0) :: zE 36 (.iload_n 2) 1 :: zE 37 .isub 1 :: zEk 38 (.iconst 5) 1 5 :: q_X11_digits_39
def q_X11_digits_29 : List zEnt := zEa 29 (.ifCond .eq 43) 3 72 :: q_X11_digits_32
def q_X11_digits_26 : List zEnt := zEc 26 (.invokevirtual 250) 3 140 1 128 0 :: q_X11_digits_29
def q_X11_digits_25 : List zEnt := zE 25 (.aload_n 0) 1 :: q_X11_digits_26
def q_X11_digits_57 : List zEnt := zE 57 (.iload_n 3) 1 :: [zE 58 .nop 0]
def q_X11_digits_69 : List zEnt := zEa 69 (.goto (-44)) 3 25 :: []
def q_X11_digits_66 : List zEnt := zEf 66 (.putfield 211) 3 11 31 179 (0, 0, 0) :: q_X11_digits_69
def q_X11_digits_58 : List zEnt := zE 58 (.istore_n 3) 1 :: zE 59 (.aload_n 0) 1 :: zE 60 .dup 1 :: zEf 61 (.getfield 211) 3 11 31 179 (0, 0, 0) :: zEk 64 (.iconst 1) 1 1 :: zE 65 .iadd 1 :: q_X11_digits_66
def q_X11_digits_84 : List zEnt := zEa 84 (.if_icmp .le 9) 3 93 :: [zE 87 .nop 0]
def q_X11_digits_82 : List zEnt := zE 82 (.iload_n 3) 1 :: zE 83 (.iload_n 1) 1 :: q_X11_digits_84
def q_X11_digits_79 : List zEnt := zEa 79 (.if_icmp .gt 8) 3 87 :: q_X11_digits_82
def q_X11_digits_72 : List zEnt := zE 72 (.aload_n 0) 1 :: zEf 73 (.getfield 211) 3 11 31 179 (0, 0, 0) :: zE 76 (.iload_n 2) 1 :: zE 77 .isub 1 :: zEk 78 (.iconst 5) 1 5 :: q_X11_digits_79
def q_X11_digits_94 : List zEnt := zE 94 .ireturn 1 :: []
def q_X11_digits_93 : List zEnt := zE 93 (.iload_n 3) 1 :: q_X11_digits_94
def q_X11_digits_90 : List zEnt := zEc 90 (.invokevirtual 246) 3 137 3 123 1 :: q_X11_digits_93
def q_X11_digits_87 : List zEnt := zE 87 (.aload_n 0) 1 :: zEk 88 (.iconst 1) 1 1 :: zE 89 (.iload_n 2) 1 :: q_X11_digits_90
def b_X11_digits : List (Nat × List zEnt) := [(0, q_X11_digits_0), (18, q_X11_digits_18), (25, q_X11_digits_25), (57, q_X11_digits_57), (58, q_X11_digits_58), (72, q_X11_digits_72), (87, q_X11_digits_87), (93, q_X11_digits_93)]
theorem bk_X11_digits : zchB 144 b_X11_digits = true := by decide +kernel
noncomputable def cc_X11_digits {ρ : Type} : Nat → zH → List zAV → (zH → zAV → Option ρ) → Option ρ := fun n σ av q => if n = 140 then g_X11_isDigit σ av q else if n = 137 then g_X11_fails σ av q else if n = 138 then g_X11_sign σ av q else none
theorem cs_X11_digits {ρ : Type} {X : zX} (hX : zHX X) : zCS X (cc_X11_digits (ρ := ρ)) := by
  intro n σ av q r h hv
  unfold cc_X11_digits at h
  by_cases e_X11_isDigit : n = 140
  · rw [if_pos e_X11_isDigit] at h
    subst e_X11_isDigit
    exact c_X11_isDigit hX h hv
  rw [if_neg e_X11_isDigit] at h
  by_cases e_X11_fails : n = 137
  · rw [if_pos e_X11_fails] at h
    subst e_X11_fails
    exact c_X11_fails hX h hv
  rw [if_neg e_X11_fails] at h
  by_cases e_X11_sign : n = 138
  · rw [if_pos e_X11_sign] at h
    subst e_X11_sign
    exact c_X11_sign hX h hv
  rw [if_neg e_X11_sign] at h
  cases h
theorem cl_X11_digits_X11_isDigit {ρ : Type} (σ : zH) (av : List zAV) (q : zH → zAV → Option ρ) : cc_X11_digits 140 σ av q = g_X11_isDigit σ av q := rfl
theorem cl_X11_digits_X11_fails {ρ : Type} (σ : zH) (av : List zAV) (q : zH → zAV → Option ρ) : cc_X11_digits 137 σ av q = g_X11_fails σ av q := rfl
theorem cl_X11_digits_X11_sign {ρ : Type} (σ : zH) (av : List zAV) (q : zH → zAV → Option ρ) : cc_X11_digits 138 σ av q = g_X11_sign σ av q := rfl
theorem hy_X11_digits {ρ : Type} {X : zX} (hX : zHX X) : zHY X 144 (cc_X11_digits (ρ := ρ)) := zHX.hY hX (cs_X11_digits hX) (zmok_all 144 (by decide))
def gl_X11_digits_25 {ρ : Type} (f : zH → Int32 → Int32 → Int32 → Option ρ) (σ : zH) (L st : List zAV) : Option ρ := match L, st with
  | [.inr (.inr (.inl (11, 0))), .inl x1, .inl x2, .inl x3], [] => f σ x1 x2 x3
  | _, _ => none
def gl_X11_digits_58 {ρ : Type} (f : zH → Int32 → Int32 → Int32 → Option ρ) (σ : zH) (L st : List zAV) : Option ρ := match L, st with
  | [.inr (.inr (.inl (11, 0))), .inl x1, .inl x2, _], [.inl xs0] => f σ x1 x2 xs0
  | _, _ => none
def gl_X11_digits_72 {ρ : Type} (f : zH → Int32 → Int32 → Int32 → Option ρ) (σ : zH) (L st : List zAV) : Option ρ := match L, st with
  | [.inr (.inr (.inl (11, 0))), .inl x1, .inl x2, .inl x3], [] => f σ x1 x2 x3
  | _, _ => none
def gl_X11_digits_87 {ρ : Type} (f : zH → Int32 → Int32 → Option ρ) (σ : zH) (L st : List zAV) : Option ρ := match L, st with
  | [.inr (.inr (.inl (11, 0))), _, .inl x2, .inl x3], [] => f σ x2 x3
  | _, _ => none
theorem glr_X11_digits_25 {ρ : Type} (f : zH → Int32 → Int32 → Int32 → Option ρ) (σ : zH) (x1 : Int32) (x2 : Int32) (x3 : Int32)  : gl_X11_digits_25 f σ [vR 11 0, vI x1, vI x2, vI x3] [] = f σ x1 x2 x3 := rfl
theorem glr_X11_digits_58 {ρ : Type} (f : zH → Int32 → Int32 → Int32 → Option ρ) (σ : zH) (x1 : Int32) (x2 : Int32) (xs0 : Int32) (y3 : zAV) : gl_X11_digits_58 f σ [vR 11 0, vI x1, vI x2, y3] [vI xs0] = f σ x1 x2 xs0 := rfl
theorem glr_X11_digits_72 {ρ : Type} (f : zH → Int32 → Int32 → Int32 → Option ρ) (σ : zH) (x1 : Int32) (x2 : Int32) (x3 : Int32)  : gl_X11_digits_72 f σ [vR 11 0, vI x1, vI x2, vI x3] [] = f σ x1 x2 x3 := rfl
theorem glr_X11_digits_87 {ρ : Type} (f : zH → Int32 → Int32 → Option ρ) (σ : zH) (x2 : Int32) (x3 : Int32) (y1 : zAV) : gl_X11_digits_87 f σ [vR 11 0, y1, vI x2, vI x3] [] = f σ x2 x3 := rfl
theorem t_X11_digits_0 {G : Nat → zH → List zAV → List zAV → Option (zH × Int32)} (es : List zEnt) (σ : zH) (x1 : Int32) (y2 : zAV) (y3 : zAV)  : zev cc_X11_digits G 0 krI (zE 0 (.aload_n 0) 1 :: es) σ [vR 11 0, vI x1, y2, y3] [] = zev cc_X11_digits G 0 krI es σ [vR 11 0, vI x1, y2, y3] [vR 11 0] := rfl
theorem t_X11_digits_7 {G : Nat → zH → List zAV → List zAV → Option (zH × Int32)} (es : List zEnt) (σ : zH)  (y1 : zAV) (y2 : zAV) (y3 : zAV) (w8 : Int32) : zev cc_X11_digits G 0 krI (zE 7 (.aload_n 0) 1 :: zEk 8 (.iconst 0) 1 w8 :: zE 9 (.aload_n 0) 1 :: zEf 10 (.getfield 211) 3 11 31 179 (0, 0, 0) :: es) σ [vR 11 0, y1, y2, y3] [] = zev cc_X11_digits G 0 krI es σ [vR 11 0, y1, y2, y3] [vI (σ.1 11 0 31), vI w8, vR 11 0] := rfl
theorem t_X11_digits_16 {G : Nat → zH → List zAV → List zAV → Option (zH × Int32)} (es : List zEnt) (σ : zH)  (y0 : zAV) (y1 : zAV) (y2 : zAV) (y3 : zAV) (w16 : Int32) : zev cc_X11_digits G 0 krI (zEk 16 (.iconst 0) 1 w16 :: es) σ [y0, y1, y2, y3] [] = zev cc_X11_digits G 0 krI es σ [y0, y1, y2, y3] [vI w16] := rfl
theorem t_X11_digits_18 {G : Nat → zH → List zAV → List zAV → Option (zH × Int32)} (es : List zEnt) (σ : zH) (x1 : Int32) (y2 : zAV) (y3 : zAV) (w23 : Int32) : zev cc_X11_digits G 0 krI (zE 18 (.aload_n 0) 1 :: zEf 19 (.getfield 211) 3 11 31 179 (0, 0, 0) :: zE 22 (.istore_n 2) 1 :: zEk 23 (.iconst 0) 1 w23 :: zE 24 (.istore_n 3) 1 :: es) σ [vR 11 0, vI x1, y2, y3] [] = zev cc_X11_digits G 0 krI es σ [vR 11 0, vI x1, vI (σ.1 11 0 31), vI w23] [] := rfl
theorem t_X11_digits_25 {G : Nat → zH → List zAV → List zAV → Option (zH × Int32)} (es : List zEnt) (σ : zH) (x1 : Int32) (x2 : Int32) (x3 : Int32)   : zev cc_X11_digits G 0 krI (zE 25 (.aload_n 0) 1 :: es) σ [vR 11 0, vI x1, vI x2, vI x3] [] = zev cc_X11_digits G 0 krI es σ [vR 11 0, vI x1, vI x2, vI x3] [vR 11 0] := rfl
theorem t_X11_digits_32 {G : Nat → zH → List zAV → List zAV → Option (zH × Int32)} (es : List zEnt) (σ : zH) (x1 : Int32) (x2 : Int32) (x3 : Int32)  (w38 : Int32) : zev cc_X11_digits G 0 krI (zE 32 (.aload_n 0) 1 :: zEf 33 (.getfield 211) 3 11 31 179 (0, 0, 0) :: zE 36 (.iload_n 2) 1 :: zE 37 .isub 1 :: zEk 38 (.iconst 5) 1 w38 :: es) σ [vR 11 0, vI x1, vI x2, vI x3] [] = zev cc_X11_digits G 0 krI es σ [vR 11 0, vI x1, vI x2, vI x3] [vI w38, vI ((σ.1 11 0 31) - x2)] := rfl
theorem t_X11_digits_42 {G : Nat → zH → List zAV → List zAV → Option (zH × Int32)} (es : List zEnt) (σ : zH) (x1 : Int32) (x2 : Int32) (x3 : Int32)  (w42 : Int32) : zev cc_X11_digits G 0 krI (zEk 42 (.bipush 10) 2 w42 :: zE 44 (.iload_n 3) 1 :: zE 45 .imul 1 :: zE 46 (.aload_n 0) 1 :: es) σ [vR 11 0, vI x1, vI x2, vI x3] [] = zev cc_X11_digits G 0 krI es σ [vR 11 0, vI x1, vI x2, vI x3] [vR 11 0, vI (w42 * x3)] := rfl
theorem t_X11_digits_50 {G : Nat → zH → List zAV → List zAV → Option (zH × Int32)} (es : List zEnt) (σ : zH) (x1 : Int32) (x2 : Int32) (xs0 : Int32) (xs1 : Int32) (y3 : zAV) (w51 : Int32) : zev cc_X11_digits G 0 krI (zE 50 .iadd 1 :: zEk 51 (.bipush 48) 2 w51 :: zE 53 .isub 1 :: es) σ [vR 11 0, vI x1, vI x2, y3] [vI xs1, vI xs0] = zev cc_X11_digits G 0 krI es σ [vR 11 0, vI x1, vI x2, y3] [vI ((xs0 + xs1) - w51)] := rfl
theorem t_X11_digits_57 {G : Nat → zH → List zAV → List zAV → Option (zH × Int32)} (es : List zEnt) (σ : zH) (x1 : Int32) (x2 : Int32) (x3 : Int32)   : zev cc_X11_digits G 0 krI (zE 57 (.iload_n 3) 1 :: es) σ [vR 11 0, vI x1, vI x2, vI x3] [] = zev cc_X11_digits G 0 krI es σ [vR 11 0, vI x1, vI x2, vI x3] [vI x3] := rfl
theorem t_X11_digits_58 {G : Nat → zH → List zAV → List zAV → Option (zH × Int32)} (es : List zEnt) (σ : zH) (x1 : Int32) (x2 : Int32) (xs0 : Int32) (y3 : zAV) (w64 : Int32) : zev cc_X11_digits G 0 krI (zE 58 (.istore_n 3) 1 :: zE 59 (.aload_n 0) 1 :: zE 60 .dup 1 :: zEf 61 (.getfield 211) 3 11 31 179 (0, 0, 0) :: zEk 64 (.iconst 1) 1 w64 :: zE 65 .iadd 1 :: es) σ [vR 11 0, vI x1, vI x2, y3] [vI xs0] = zev cc_X11_digits G 0 krI es σ [vR 11 0, vI x1, vI x2, vI xs0] [vI ((σ.1 11 0 31) + w64), vR 11 0] := rfl
theorem t_X11_digits_72 {G : Nat → zH → List zAV → List zAV → Option (zH × Int32)} (es : List zEnt) (σ : zH) (x1 : Int32) (x2 : Int32) (x3 : Int32)  (w78 : Int32) : zev cc_X11_digits G 0 krI (zE 72 (.aload_n 0) 1 :: zEf 73 (.getfield 211) 3 11 31 179 (0, 0, 0) :: zE 76 (.iload_n 2) 1 :: zE 77 .isub 1 :: zEk 78 (.iconst 5) 1 w78 :: es) σ [vR 11 0, vI x1, vI x2, vI x3] [] = zev cc_X11_digits G 0 krI es σ [vR 11 0, vI x1, vI x2, vI x3] [vI w78, vI ((σ.1 11 0 31) - x2)] := rfl
theorem t_X11_digits_82 {G : Nat → zH → List zAV → List zAV → Option (zH × Int32)} (es : List zEnt) (σ : zH) (x1 : Int32) (x2 : Int32) (x3 : Int32)   : zev cc_X11_digits G 0 krI (zE 82 (.iload_n 3) 1 :: zE 83 (.iload_n 1) 1 :: es) σ [vR 11 0, vI x1, vI x2, vI x3] [] = zev cc_X11_digits G 0 krI es σ [vR 11 0, vI x1, vI x2, vI x3] [vI x1, vI x3] := rfl
theorem t_X11_digits_87 {G : Nat → zH → List zAV → List zAV → Option (zH × Int32)} (es : List zEnt) (σ : zH) (x2 : Int32) (x3 : Int32) (y1 : zAV) (w88 : Int32) : zev cc_X11_digits G 0 krI (zE 87 (.aload_n 0) 1 :: zEk 88 (.iconst 1) 1 w88 :: zE 89 (.iload_n 2) 1 :: es) σ [vR 11 0, y1, vI x2, vI x3] [] = zev cc_X11_digits G 0 krI es σ [vR 11 0, y1, vI x2, vI x3] [vI x2, vI w88, vR 11 0] := rfl
theorem t_X11_digits_93 {G : Nat → zH → List zAV → List zAV → Option (zH × Int32)} (es : List zEnt) (σ : zH) (x3 : Int32) (y0 : zAV) (y1 : zAV) (y2 : zAV)  : zev cc_X11_digits G 0 krI (zE 93 (.iload_n 3) 1 :: es) σ [y0, y1, y2, vI x3] [] = zev cc_X11_digits G 0 krI es σ [y0, y1, y2, vI x3] [vI x3] := rfl
noncomputable def j_X11_digits_58 (c25 : zH → Int32 → Int32 → Int32 → Option (zH × Int32)) (σ : zH) (x1 : Int32) (x2 : Int32) (xs0 : Int32) : Option (zH × Int32) :=
  zlet (uI σ 11 0 31 ((σ.1 11 0 31) + (1 : Int32))) fun σ1 =>
  c25 σ1 x1 x2 xs0
theorem e_X11_digits_58 (c25 : zH → Int32 → Int32 → Int32 → Option (zH × Int32)) (σ : zH) (x1 : Int32) (x2 : Int32) (xs0 : Int32) (y3 : zAV) : j_X11_digits_58 c25 σ x1 x2 xs0 = zin cc_X11_digits (fun t => if t = 25 then some (gl_X11_digits_25 c25) else none) 0 krI b_X11_digits 58 σ [vR 11 0, vI x1, vI x2, y3] [vI xs0] := by
  unfold j_X11_digits_58
  refine Eq.symm ((zin_b (es := q_X11_digits_58) rfl).trans ?_)
  refine (t_X11_digits_58 _ _ _ _ _ _ _).trans ?_
  refine x_pf0.trans (plt fun _ => ?_)
  refine x_goto.trans ?_
  exact (zrun_c rfl).trans (glr_X11_digits_25 _ _ _ _ _)
theorem s_X11_digits_58 {X : zX} (hX : zHX X) {c25 : zH → Int32 → Int32 → Int32 → Option (zH × Int32)} (h25 : ∀ σ L st r, gl_X11_digits_25 c25 σ L st = some r → zGW X 144 krI 25 σ L st r) : ∀ σ L st r, gl_X11_digits_58 (j_X11_digits_58 c25) σ L st = some r → zGW X 144 krI 58 σ L st r := by
  intro σ L st r h
  unfold gl_X11_digits_58 at h
  split at h
  · exact zin_ok (hy_X11_digits hX) bk_X11_digits (fun t f hf => by
    by_cases e25 : t = 25
    · rw [if_pos e25] at hf; subst e25; cases hf; exact h25
    rw [if_neg e25] at hf
    cases hf) ((e_X11_digits_58 _ _ _ _ _ _).symm.trans h)
  · cases h
noncomputable def k_X11_digits_25 (c72 : zH → Int32 → Int32 → Int32 → Option (zH × Int32)) : Nat → zH → Int32 → Int32 → Int32 → Option (zH × Int32)
  | 0, _, _, _, _ => none
  | n + 1, σ, x1, x2, x3 =>
    (d_X11_isDigit σ).bind fun p1 =>
    if p1.2 = 0 then
      c72 p1.1 x1 x2 x3
    else
      if ((p1.1.1 11 0 31) - x2) < (5 : Int32) then
        (d_X11_sign p1.1).bind fun p2 =>
        (j_X11_digits_58 (k_X11_digits_25 c72 n)) p2.1 x1 x2 ((((10 : Int32) * x3) + p2.2) - (48 : Int32))
      else
        (j_X11_digits_58 (k_X11_digits_25 c72 n)) p1.1 x1 x2 x3
theorem e_X11_digits_25 (c72 : zH → Int32 → Int32 → Int32 → Option (zH × Int32)) (n : Nat) (σ : zH) (x1 : Int32) (x2 : Int32) (x3 : Int32)  : k_X11_digits_25 c72 (n + 1) σ x1 x2 x3 = zin cc_X11_digits (fun t => if t = 58 then some (gl_X11_digits_58 (j_X11_digits_58 (k_X11_digits_25 c72 n))) else if t = 72 then some (gl_X11_digits_72 c72) else none) 0 krI b_X11_digits 25 σ [vR 11 0, vI x1, vI x2, vI x3] [] := by
  rw [k_X11_digits_25]
  refine Eq.symm ((zin_b (es := q_X11_digits_25) rfl).trans ?_)
  refine (t_X11_digits_25 _ _ _ _ _).trans ?_
  refine (x_callV rfl rfl rfl rfl).trans ((cl_X11_digits_X11_isDigit _ _ _).trans ((gr_X11_isDigit _ _).trans (pbd fun _ => ?_)))
  refine x_if.trans (pif_eq ?_ ?_)
  · exact (zrun_c rfl).trans (glr_X11_digits_72 _ _ _ _ _)
  · refine (t_X11_digits_32 _ _ _ _ _ _).trans ?_
    refine x_icmp.trans (pif_ge ?_ ?_)
    · refine (zrun_b (es := q_X11_digits_57) rfl rfl).trans ?_
      refine (t_X11_digits_57 _ _ _ _ _).trans ?_
      refine x_cut.trans ?_
      exact (zrun_c rfl).trans (glr_X11_digits_58 _ _ _ _ _ _)
    · refine (t_X11_digits_42 _ _ _ _ _ _).trans ?_
      refine (x_callV rfl rfl rfl rfl).trans ((cl_X11_digits_X11_sign _ _ _).trans ((gr_X11_sign _ _).trans (pbd fun _ => ?_)))
      refine (t_X11_digits_50 _ _ _ _ _ _ _ _).trans ?_
      refine x_goto.trans ?_
      exact (zrun_c rfl).trans (glr_X11_digits_58 _ _ _ _ _ _)
theorem s_X11_digits_25 {X : zX} (hX : zHX X) {c72 : zH → Int32 → Int32 → Int32 → Option (zH × Int32)} (h72 : ∀ σ L st r, gl_X11_digits_72 c72 σ L st = some r → zGW X 144 krI 72 σ L st r) : ∀ n σ L st r, gl_X11_digits_25 (k_X11_digits_25 c72 n) σ L st = some r → zGW X 144 krI 25 σ L st r := by
  intro n
  induction n with
  | zero =>
    intro σ L st r h
    unfold gl_X11_digits_25 at h
    split at h <;> cases h
  | succ n ih =>
    intro σ L st r h
    unfold gl_X11_digits_25 at h
    split at h
    · exact zin_ok (hy_X11_digits hX) bk_X11_digits (fun t f hf => by
      by_cases e58 : t = 58
      · rw [if_pos e58] at hf; subst e58; cases hf; exact (s_X11_digits_58 hX ih)
      rw [if_neg e58] at hf
      by_cases e72 : t = 72
      · rw [if_pos e72] at hf; subst e72; cases hf; exact h72
      rw [if_neg e72] at hf
      cases hf) ((e_X11_digits_25 _ _ _ _ _ _).symm.trans h)
    · cases h
noncomputable def j_X11_digits_87  (σ : zH) (x2 : Int32) (x3 : Int32) : Option (zH × Int32) :=
  (d_X11_fails σ (1 : Int32) x2).bind fun σ1 =>
  some (σ1, x3)
theorem e_X11_digits_87  (σ : zH) (x2 : Int32) (x3 : Int32) (y1 : zAV) : j_X11_digits_87 σ x2 x3 = zin cc_X11_digits (fun t => none) 0 krI b_X11_digits 87 σ [vR 11 0, y1, vI x2, vI x3] [] := by
  unfold j_X11_digits_87
  refine Eq.symm ((zin_b (es := q_X11_digits_87) rfl).trans ?_)
  refine (t_X11_digits_87 _ _ _ _ _ _).trans ?_
  refine (x_callV rfl rfl rfl rfl).trans ((cl_X11_digits_X11_fails _ _ _).trans ((gr_X11_fails _ _ _ _).trans (pbd fun _ => ?_)))
  refine (t_X11_digits_93 _ _ _ _ _ _).trans ?_
  exact x_iret
theorem s_X11_digits_87 {X : zX} (hX : zHX X)   : ∀ σ L st r, gl_X11_digits_87 j_X11_digits_87 σ L st = some r → zGW X 144 krI 87 σ L st r := by
  intro σ L st r h
  unfold gl_X11_digits_87 at h
  split at h
  · exact zin_ok (hy_X11_digits hX) bk_X11_digits (fun t f hf => by
    cases hf) ((e_X11_digits_87 _ _ _ _).symm.trans h)
  · cases h
noncomputable def j_X11_digits_72  (σ : zH) (x1 : Int32) (x2 : Int32) (x3 : Int32) : Option (zH × Int32) :=
  if (5 : Int32) < ((σ.1 11 0 31) - x2) then
    j_X11_digits_87 σ x2 x3
  else
    if x1 < x3 then
      j_X11_digits_87 σ x2 x3
    else
      some (σ, x3)
theorem e_X11_digits_72  (σ : zH) (x1 : Int32) (x2 : Int32) (x3 : Int32)  : j_X11_digits_72 σ x1 x2 x3 = zin cc_X11_digits (fun t => if t = 87 then some (gl_X11_digits_87 j_X11_digits_87) else none) 0 krI b_X11_digits 72 σ [vR 11 0, vI x1, vI x2, vI x3] [] := by
  unfold j_X11_digits_72
  refine Eq.symm ((zin_b (es := q_X11_digits_72) rfl).trans ?_)
  refine (t_X11_digits_72 _ _ _ _ _ _).trans ?_
  refine x_icmp.trans (pif_gt ?_ ?_)
  · exact (zrun_c rfl).trans (glr_X11_digits_87 _ _ _ _ _)
  · refine (t_X11_digits_82 _ _ _ _ _).trans ?_
    refine x_icmp.trans (pif_le ?_ ?_)
    · refine (zrun_b (es := q_X11_digits_93) rfl rfl).trans ?_
      refine (t_X11_digits_93 _ _ _ _ _ _).trans ?_
      exact x_iret
    · refine x_cut.trans ?_
      exact (zrun_c rfl).trans (glr_X11_digits_87 _ _ _ _ _)
theorem s_X11_digits_72 {X : zX} (hX : zHX X)   : ∀ σ L st r, gl_X11_digits_72 j_X11_digits_72 σ L st = some r → zGW X 144 krI 72 σ L st r := by
  intro σ L st r h
  unfold gl_X11_digits_72 at h
  split at h
  · exact zin_ok (hy_X11_digits hX) bk_X11_digits (fun t f hf => by
    by_cases e87 : t = 87
    · rw [if_pos e87] at hf; subst e87; cases hf; exact (s_X11_digits_87 hX)
    rw [if_neg e87] at hf
    cases hf) ((e_X11_digits_72 _ _ _ _).symm.trans h)
  · cases h
noncomputable def d_X11_digits (σ : zH) (xa1 : Int32) : Option (zH × Int32) :=
  (d_X11_isDigit σ).bind fun p1 =>
  if p1.2 = 0 then
    (d_X11_fails p1.1 (0 : Int32) (p1.1.1 11 0 31)).bind fun σ2 =>
    some (σ2, (0 : Int32))
  else
    (k_X11_digits_25 j_X11_digits_72 zN) p1.1 xa1 (p1.1.1 11 0 31) (0 : Int32)
theorem e_X11_digits (σ : zH) (xa1 : Int32) : d_X11_digits σ xa1 = zin cc_X11_digits (fun t => if t = 25 then some (gl_X11_digits_25 (k_X11_digits_25 j_X11_digits_72 zN)) else none) 0 krI b_X11_digits 0 σ [vR 11 0, vI xa1, vU, vU] [] := by
  unfold d_X11_digits
  refine Eq.symm ((zin_b (es := q_X11_digits_0) rfl).trans ?_)
  refine (t_X11_digits_0 _ _ _ _ _).trans ?_
  refine (x_callV rfl rfl rfl rfl).trans ((cl_X11_digits_X11_isDigit _ _ _).trans ((gr_X11_isDigit _ _).trans (pbd fun _ => ?_)))
  refine x_if.trans (pif_ne ?_ ?_)
  · refine (zrun_b (es := q_X11_digits_18) rfl rfl).trans ?_
    refine (t_X11_digits_18 _ _ _ _ _ _).trans ?_
    refine x_cut.trans ?_
    exact (zrun_c rfl).trans (glr_X11_digits_25 _ _ _ _ _)
  · refine (t_X11_digits_7 _ _ _ _ _ _).trans ?_
    refine (x_callV rfl rfl rfl rfl).trans ((cl_X11_digits_X11_fails _ _ _).trans ((gr_X11_fails _ _ _ _).trans (pbd fun _ => ?_)))
    refine (t_X11_digits_16 _ _ _ _ _ _ _).trans ?_
    exact x_iret
noncomputable def g_X11_digits {ρ : Type} (σ : zH) (av : List zAV) (q : zH → zAV → Option ρ) : Option ρ := match av with
  | [.inr (.inr (.inl (11, 0))), .inl xa1] => (d_X11_digits σ xa1).bind fun p => q p.1 (vI p.2)
  | _ => none
theorem gr_X11_digits {ρ : Type} (σ : zH) (xa1 : Int32) (q : zH → zAV → Option ρ) : g_X11_digits σ [vR 11 0, vI xa1] q = (d_X11_digits σ xa1).bind fun p => q p.1 (vI p.2) := rfl
theorem c_X11_digits {ρ : Type} {X : zX} (hX : zHX X) {σ : zH} {av : List zAV} {q : zH → zAV → Option ρ} {r : ρ} (h : g_X11_digits σ av q = some r) (hv : ∀ a ∈ av, zval X a) : zcon X 144 σ av q r := by
  unfold g_X11_digits at h
  split at h
  · exact zcon_I (n := 144) (ml := 4) (rc := 0) (st := 0) (kd := 11) (np := 1) (by decide +kernel) (by decide) ⟨_, _, rfl, rfl⟩ (Nat.le_of_ble_eq_true rfl) hv h (fun y h1 => (zin_ok (hy_X11_digits hX) bk_X11_digits (fun t f hf => by
      by_cases e25 : t = 25
      · rw [if_pos e25] at hf; subst e25; cases hf; exact ((fun σ L st r h => s_X11_digits_25 hX (s_X11_digits_72 hX) zN σ L st r h))
      rw [if_neg e25] at hf
      cases hf) ((e_X11_digits _ _).symm.trans h1)))
  · cases h
/-! SleepWavesModel.value()V -/
def q_X11_value_34 : List zEnt := zE 34 .return_ 1 :: []
def q_X11_value_31 : List zEnt := zEc 31 (.invokevirtual 262) 3 142 3 141 1 :: q_X11_value_34
def q_X11_value_28 : List zEnt := zE 28 (.aload_n 0) 1 :: zEk 29 (.iconst 0) 1 0 :: zE 30 (.iload_n 2) 1 :: q_X11_value_31
def q_X11_value_25 : List zEnt := zEc 25 (.invokevirtual 259) 3 143 2 140 1 :: q_X11_value_28
def q_X11_value_22 : List zEnt := zE 22 (.istore_n 2) 1 :: zE 23 (.aload_n 0) 1 :: zE 24 (.iload_n 1) 1 :: q_X11_value_25
def q_X11_value_19 : List zEnt := zEc 19 (.invokevirtual 255) 3 144 2 127 0 :: q_X11_value_22
def q_X11_value_16 : List zEnt := zE 16 (.aload_n 0) 1 :: (17, (.ldc 254), 2, (0, 0, 1391, 0), (0, 0, 0), 99999, 0, []) :: q_X11_value_19
def q_X11_value_13 : List zEnt := zEa 13 (.ifCond .eq 22) 3 35 :: q_X11_value_16
def q_X11_value_10 : List zEnt := zEc 10 (.invokevirtual 250) 3 140 1 128 0 :: q_X11_value_13
def q_X11_value_4 : List zEnt := zE 4 (.aload_n 0) 1 :: zEf 5 (.getfield 211) 3 11 31 179 (0, 0, 0) :: zE 8 (.istore_n 1) 1 :: zE 9 (.aload_n 0) 1 :: q_X11_value_10
def q_X11_value_1 : List zEnt := zEc 1 (.invokevirtual 230) 3 139 1 119 1 :: q_X11_value_4
def q_X11_value_0 : List zEnt := zE 0 (.aload_n 0) 1 :: q_X11_value_1
def q_X11_value_35 : List zEnt := zEk 35 (.iconst 0) 1 0 :: zE 36 (.istore_n 2) 1 :: [zE 37 .nop 0]
def q_X11_value_59 : List zEnt := zEa 59 (.goto (-22)) 3 37 :: []
def q_X11_value_56 : List zEnt := zEk 56 (.iinc 2 1) 3 1 :: q_X11_value_59
def q_X11_value_53 : List zEnt := zEa 53 (.ifCond .ne 9) 3 62 :: q_X11_value_56
def q_X11_value_50 : List zEnt := zEc 50 (.invokevirtual 233) 3 141 2 122 0 :: q_X11_value_53
def q_X11_value_47 : List zEnt := zEc 47 (.invokestatic 265) 3 135 1 142 0 :: q_X11_value_50
def q_X11_value_45 : List zEnt := zE 45 (.aload_n 0) 1 :: zE 46 (.iload_n 2) 1 :: q_X11_value_47
def q_X11_value_42 : List zEnt := zEa 42 (.if_icmp .ge 20) 3 62 :: q_X11_value_45
def q_X11_value_37 : List zEnt := zE 37 (.iload_n 2) 1 :: zE 38 (.aload_n 0) 1 :: zEf 39 (.getfield 98) 3 11 39 187 (0, 0, 0) :: q_X11_value_42
def q_X11_value_76 : List zEnt := zE 76 .return_ 1 :: []
def q_X11_value_73 : List zEnt := zEc 73 (.invokevirtual 246) 3 137 3 123 1 :: q_X11_value_76
def q_X11_value_70 : List zEnt := zE 70 (.aload_n 0) 1 :: zEk 71 (.iconst 0) 1 0 :: zE 72 (.iload_n 1) 1 :: q_X11_value_73
def q_X11_value_67 : List zEnt := zEa 67 (.if_icmp .ne 10) 3 77 :: q_X11_value_70
def q_X11_value_62 : List zEnt := zE 62 (.iload_n 2) 1 :: zE 63 (.aload_n 0) 1 :: zEf 64 (.getfield 98) 3 11 39 187 (0, 0, 0) :: q_X11_value_67
def q_X11_value_104 : List zEnt := zE 104 .return_ 1 :: []
def q_X11_value_101 : List zEnt := zEc 101 (.invokevirtual 262) 3 142 3 141 1 :: q_X11_value_104
def q_X11_value_98 : List zEnt := zE 98 (.aload_n 0) 1 :: zEk 99 (.iconst 1) 1 1 :: zE 100 (.iload_n 2) 1 :: q_X11_value_101
def q_X11_value_95 : List zEnt := zEf 95 (.putfield 211) 3 11 31 179 (0, 0, 0) :: q_X11_value_98
def q_X11_value_91 : List zEnt := zEc 91 (.invokevirtual 222) 3 9000 0 1373 0 :: zE 94 .iadd 1 :: q_X11_value_95
def q_X11_value_88 : List zEnt := zEc 88 (.invokestatic 265) 3 135 1 142 0 :: q_X11_value_91
def q_X11_value_82 : List zEnt := zE 82 (.aload_n 0) 1 :: zE 83 .dup 1 :: zEf 84 (.getfield 211) 3 11 31 179 (0, 0, 0) :: zE 87 (.iload_n 2) 1 :: q_X11_value_88
def q_X11_value_79 : List zEnt := zEc 79 (.invokevirtual 259) 3 143 2 140 1 :: q_X11_value_82
def q_X11_value_77 : List zEnt := zE 77 (.aload_n 0) 1 :: zE 78 (.iload_n 1) 1 :: q_X11_value_79
def b_X11_value : List (Nat × List zEnt) := [(0, q_X11_value_0), (35, q_X11_value_35), (37, q_X11_value_37), (62, q_X11_value_62), (77, q_X11_value_77)]
theorem bk_X11_value : zchB 145 b_X11_value = true := by decide +kernel
noncomputable def cc_X11_value {ρ : Type} : Nat → zH → List zAV → (zH → zAV → Option ρ) → Option ρ := fun n σ av q => if n = 139 then g_X11_blanks σ av q else if n = 140 then g_X11_isDigit σ av q else if n = 144 then g_X11_digits σ av q else if n = 143 then g_X11_isCounted σ av q else if n = 142 then g_X11_entry σ av q else if n = 135 then g_X11_wordOf σ av q else if n = 141 then g_X11_stood σ av q else if n = 137 then g_X11_fails σ av q else none
theorem cs_X11_value {ρ : Type} {X : zX} (hX : zHX X) : zCS X (cc_X11_value (ρ := ρ)) := by
  intro n σ av q r h hv
  unfold cc_X11_value at h
  by_cases e_X11_blanks : n = 139
  · rw [if_pos e_X11_blanks] at h
    subst e_X11_blanks
    exact c_X11_blanks hX h hv
  rw [if_neg e_X11_blanks] at h
  by_cases e_X11_isDigit : n = 140
  · rw [if_pos e_X11_isDigit] at h
    subst e_X11_isDigit
    exact c_X11_isDigit hX h hv
  rw [if_neg e_X11_isDigit] at h
  by_cases e_X11_digits : n = 144
  · rw [if_pos e_X11_digits] at h
    subst e_X11_digits
    exact c_X11_digits hX h hv
  rw [if_neg e_X11_digits] at h
  by_cases e_X11_isCounted : n = 143
  · rw [if_pos e_X11_isCounted] at h
    subst e_X11_isCounted
    exact c_X11_isCounted hX h hv
  rw [if_neg e_X11_isCounted] at h
  by_cases e_X11_entry : n = 142
  · rw [if_pos e_X11_entry] at h
    subst e_X11_entry
    exact c_X11_entry hX h hv
  rw [if_neg e_X11_entry] at h
  by_cases e_X11_wordOf : n = 135
  · rw [if_pos e_X11_wordOf] at h
    subst e_X11_wordOf
    exact c_X11_wordOf hX h hv
  rw [if_neg e_X11_wordOf] at h
  by_cases e_X11_stood : n = 141
  · rw [if_pos e_X11_stood] at h
    subst e_X11_stood
    exact c_X11_stood hX h hv
  rw [if_neg e_X11_stood] at h
  by_cases e_X11_fails : n = 137
  · rw [if_pos e_X11_fails] at h
    subst e_X11_fails
    exact c_X11_fails hX h hv
  rw [if_neg e_X11_fails] at h
  cases h
theorem cl_X11_value_X11_blanks {ρ : Type} (σ : zH) (av : List zAV) (q : zH → zAV → Option ρ) : cc_X11_value 139 σ av q = g_X11_blanks σ av q := rfl
theorem cl_X11_value_X11_isDigit {ρ : Type} (σ : zH) (av : List zAV) (q : zH → zAV → Option ρ) : cc_X11_value 140 σ av q = g_X11_isDigit σ av q := rfl
theorem cl_X11_value_X11_digits {ρ : Type} (σ : zH) (av : List zAV) (q : zH → zAV → Option ρ) : cc_X11_value 144 σ av q = g_X11_digits σ av q := rfl
theorem cl_X11_value_X11_isCounted {ρ : Type} (σ : zH) (av : List zAV) (q : zH → zAV → Option ρ) : cc_X11_value 143 σ av q = g_X11_isCounted σ av q := rfl
theorem cl_X11_value_X11_entry {ρ : Type} (σ : zH) (av : List zAV) (q : zH → zAV → Option ρ) : cc_X11_value 142 σ av q = g_X11_entry σ av q := rfl
theorem cl_X11_value_X11_wordOf {ρ : Type} (σ : zH) (av : List zAV) (q : zH → zAV → Option ρ) : cc_X11_value 135 σ av q = g_X11_wordOf σ av q := rfl
theorem cl_X11_value_X11_stood {ρ : Type} (σ : zH) (av : List zAV) (q : zH → zAV → Option ρ) : cc_X11_value 141 σ av q = g_X11_stood σ av q := rfl
theorem cl_X11_value_X11_fails {ρ : Type} (σ : zH) (av : List zAV) (q : zH → zAV → Option ρ) : cc_X11_value 137 σ av q = g_X11_fails σ av q := rfl
theorem hy_X11_value {ρ : Type} {X : zX} (hX : zHX X) : zHY X 145 (cc_X11_value (ρ := ρ)) := zHX.hY hX (cs_X11_value hX) (zmok_all 145 (by decide))
def gl_X11_value_37 {ρ : Type} (f : zH → Int32 → Int32 → Option ρ) (σ : zH) (L st : List zAV) : Option ρ := match L, st with
  | [.inr (.inr (.inl (11, 0))), .inl x1, .inl x2], [] => f σ x1 x2
  | _, _ => none
def gl_X11_value_62 {ρ : Type} (f : zH → Int32 → Int32 → Option ρ) (σ : zH) (L st : List zAV) : Option ρ := match L, st with
  | [.inr (.inr (.inl (11, 0))), .inl x1, .inl x2], [] => f σ x1 x2
  | _, _ => none
theorem glr_X11_value_37 {ρ : Type} (f : zH → Int32 → Int32 → Option ρ) (σ : zH) (x1 : Int32) (x2 : Int32)  : gl_X11_value_37 f σ [vR 11 0, vI x1, vI x2] [] = f σ x1 x2 := rfl
theorem glr_X11_value_62 {ρ : Type} (f : zH → Int32 → Int32 → Option ρ) (σ : zH) (x1 : Int32) (x2 : Int32)  : gl_X11_value_62 f σ [vR 11 0, vI x1, vI x2] [] = f σ x1 x2 := rfl
theorem t_X11_value_0 {G : Nat → zH → List zAV → List zAV → Option zH} (es : List zEnt) (σ : zH)  (y1 : zAV) (y2 : zAV)  : zev cc_X11_value G 9 krV (zE 0 (.aload_n 0) 1 :: es) σ [vR 11 0, y1, y2] [] = zev cc_X11_value G 9 krV es σ [vR 11 0, y1, y2] [vR 11 0] := rfl
theorem t_X11_value_4 {G : Nat → zH → List zAV → List zAV → Option zH} (es : List zEnt) (σ : zH)  (y1 : zAV) (y2 : zAV)  : zev cc_X11_value G 9 krV (zE 4 (.aload_n 0) 1 :: zEf 5 (.getfield 211) 3 11 31 179 (0, 0, 0) :: zE 8 (.istore_n 1) 1 :: zE 9 (.aload_n 0) 1 :: es) σ [vR 11 0, y1, y2] [] = zev cc_X11_value G 9 krV es σ [vR 11 0, vI (σ.1 11 0 31), y2] [vR 11 0] := rfl
theorem t_X11_value_16 {G : Nat → zH → List zAV → List zAV → Option zH} (es : List zEnt) (σ : zH) (x1 : Int32) (y2 : zAV) (w17 : Int32) : zev cc_X11_value G 9 krV (zE 16 (.aload_n 0) 1 :: (17, (.ldc 254), 2, (0, 0, 1391, 0), (0, 0, 0), w17, 0, []) :: es) σ [vR 11 0, vI x1, y2] [] = zev cc_X11_value G 9 krV es σ [vR 11 0, vI x1, y2] [vI w17, vR 11 0] := rfl
theorem t_X11_value_22 {G : Nat → zH → List zAV → List zAV → Option zH} (es : List zEnt) (σ : zH) (x1 : Int32) (xs0 : Int32) (y2 : zAV)  : zev cc_X11_value G 9 krV (zE 22 (.istore_n 2) 1 :: zE 23 (.aload_n 0) 1 :: zE 24 (.iload_n 1) 1 :: es) σ [vR 11 0, vI x1, y2] [vI xs0] = zev cc_X11_value G 9 krV es σ [vR 11 0, vI x1, vI xs0] [vI x1, vR 11 0] := rfl
theorem t_X11_value_28 {G : Nat → zH → List zAV → List zAV → Option zH} (es : List zEnt) (σ : zH) (x2 : Int32) (y1 : zAV) (w29 : Int32) : zev cc_X11_value G 9 krV (zE 28 (.aload_n 0) 1 :: zEk 29 (.iconst 0) 1 w29 :: zE 30 (.iload_n 2) 1 :: es) σ [vR 11 0, y1, vI x2] [] = zev cc_X11_value G 9 krV es σ [vR 11 0, y1, vI x2] [vI x2, vI w29, vR 11 0] := rfl
theorem t_X11_value_35 {G : Nat → zH → List zAV → List zAV → Option zH} (es : List zEnt) (σ : zH) (x1 : Int32) (y2 : zAV) (w35 : Int32) : zev cc_X11_value G 9 krV (zEk 35 (.iconst 0) 1 w35 :: zE 36 (.istore_n 2) 1 :: es) σ [vR 11 0, vI x1, y2] [] = zev cc_X11_value G 9 krV es σ [vR 11 0, vI x1, vI w35] [] := rfl
theorem t_X11_value_37 {G : Nat → zH → List zAV → List zAV → Option zH} (es : List zEnt) (σ : zH) (x1 : Int32) (x2 : Int32)   : zev cc_X11_value G 9 krV (zE 37 (.iload_n 2) 1 :: zE 38 (.aload_n 0) 1 :: zEf 39 (.getfield 98) 3 11 39 187 (0, 0, 0) :: es) σ [vR 11 0, vI x1, vI x2] [] = zev cc_X11_value G 9 krV es σ [vR 11 0, vI x1, vI x2] [vI (σ.1 11 0 39), vI x2] := rfl
theorem t_X11_value_45 {G : Nat → zH → List zAV → List zAV → Option zH} (es : List zEnt) (σ : zH) (x1 : Int32) (x2 : Int32)   : zev cc_X11_value G 9 krV (zE 45 (.aload_n 0) 1 :: zE 46 (.iload_n 2) 1 :: es) σ [vR 11 0, vI x1, vI x2] [] = zev cc_X11_value G 9 krV es σ [vR 11 0, vI x1, vI x2] [vI x2, vR 11 0] := rfl
theorem t_X11_value_56 {G : Nat → zH → List zAV → List zAV → Option zH} (es : List zEnt) (σ : zH) (x1 : Int32) (x2 : Int32)  (w56 : Int32) : zev cc_X11_value G 9 krV (zEk 56 (.iinc 2 1) 3 w56 :: es) σ [vR 11 0, vI x1, vI x2] [] = zev cc_X11_value G 9 krV es σ [vR 11 0, vI x1, vI (x2 + w56)] [] := rfl
theorem t_X11_value_62 {G : Nat → zH → List zAV → List zAV → Option zH} (es : List zEnt) (σ : zH) (x1 : Int32) (x2 : Int32)   : zev cc_X11_value G 9 krV (zE 62 (.iload_n 2) 1 :: zE 63 (.aload_n 0) 1 :: zEf 64 (.getfield 98) 3 11 39 187 (0, 0, 0) :: es) σ [vR 11 0, vI x1, vI x2] [] = zev cc_X11_value G 9 krV es σ [vR 11 0, vI x1, vI x2] [vI (σ.1 11 0 39), vI x2] := rfl
theorem t_X11_value_70 {G : Nat → zH → List zAV → List zAV → Option zH} (es : List zEnt) (σ : zH) (x1 : Int32) (y2 : zAV) (w71 : Int32) : zev cc_X11_value G 9 krV (zE 70 (.aload_n 0) 1 :: zEk 71 (.iconst 0) 1 w71 :: zE 72 (.iload_n 1) 1 :: es) σ [vR 11 0, vI x1, y2] [] = zev cc_X11_value G 9 krV es σ [vR 11 0, vI x1, y2] [vI x1, vI w71, vR 11 0] := rfl
theorem t_X11_value_77 {G : Nat → zH → List zAV → List zAV → Option zH} (es : List zEnt) (σ : zH) (x1 : Int32) (x2 : Int32)   : zev cc_X11_value G 9 krV (zE 77 (.aload_n 0) 1 :: zE 78 (.iload_n 1) 1 :: es) σ [vR 11 0, vI x1, vI x2] [] = zev cc_X11_value G 9 krV es σ [vR 11 0, vI x1, vI x2] [vI x1, vR 11 0] := rfl
theorem t_X11_value_82 {G : Nat → zH → List zAV → List zAV → Option zH} (es : List zEnt) (σ : zH) (x2 : Int32) (y1 : zAV)  : zev cc_X11_value G 9 krV (zE 82 (.aload_n 0) 1 :: zE 83 .dup 1 :: zEf 84 (.getfield 211) 3 11 31 179 (0, 0, 0) :: zE 87 (.iload_n 2) 1 :: es) σ [vR 11 0, y1, vI x2] [] = zev cc_X11_value G 9 krV es σ [vR 11 0, y1, vI x2] [vI x2, vI (σ.1 11 0 31), vR 11 0] := rfl
theorem t_X11_value_91 {G : Nat → zH → List zAV → List zAV → Option zH} (es : List zEnt) (σ : zH) (x2 : Int32) (xs1 : Int32) (is2 : Nat) (y1 : zAV)  : zev cc_X11_value G 9 krV (zEc 91 (.invokevirtual 222) 3 9000 0 1373 0 :: zE 94 .iadd 1 :: es) σ [vR 11 0, y1, vI x2] [vR 200 is2, vI xs1, vR 11 0] = zev cc_X11_value G 9 krV es σ [vR 11 0, y1, vI x2] [vI (xs1 + (Int32.ofNat (zsN is2))), vR 11 0] := rfl
theorem t_X11_value_98 {G : Nat → zH → List zAV → List zAV → Option zH} (es : List zEnt) (σ : zH) (x2 : Int32) (y1 : zAV) (w99 : Int32) : zev cc_X11_value G 9 krV (zE 98 (.aload_n 0) 1 :: zEk 99 (.iconst 1) 1 w99 :: zE 100 (.iload_n 2) 1 :: es) σ [vR 11 0, y1, vI x2] [] = zev cc_X11_value G 9 krV es σ [vR 11 0, y1, vI x2] [vI x2, vI w99, vR 11 0] := rfl
noncomputable def k_X11_value_37 (c62 : zH → Int32 → Int32 → Option zH) : Nat → zH → Int32 → Int32 → Option zH
  | 0, _, _, _ => none
  | n + 1, σ, x1, x2 =>
    if x2 < (σ.1 11 0 39) then
      (d_X11_wordOf σ x2).bind fun p1 =>
      (d_X11_stood p1.1 p1.2).bind fun p2 =>
      if p2.2 = 0 then
        (k_X11_value_37 c62 n) p2.1 x1 (x2 + (1 : Int32))
      else
        c62 p2.1 x1 x2
    else
      c62 σ x1 x2
theorem e_X11_value_37 (c62 : zH → Int32 → Int32 → Option zH) (n : Nat) (σ : zH) (x1 : Int32) (x2 : Int32)  : k_X11_value_37 c62 (n + 1) σ x1 x2 = zin cc_X11_value (fun t => if t = 37 then some (gl_X11_value_37 (k_X11_value_37 c62 n)) else if t = 62 then some (gl_X11_value_62 c62) else none) 9 krV b_X11_value 37 σ [vR 11 0, vI x1, vI x2] [] := by
  rw [k_X11_value_37]
  refine Eq.symm ((zin_b (es := q_X11_value_37) rfl).trans ?_)
  refine (t_X11_value_37 _ _ _ _).trans ?_
  refine x_icmp.trans (pif_ge ?_ ?_)
  · exact (zrun_c rfl).trans (glr_X11_value_62 _ _ _ _)
  · refine (t_X11_value_45 _ _ _ _).trans ?_
    refine (x_callS rfl rfl rfl rfl).trans ((cl_X11_value_X11_wordOf _ _ _).trans ((gr_X11_wordOf _ _ _).trans (pbd fun _ => ?_)))
    refine (x_callV rfl rfl rfl rfl).trans ((cl_X11_value_X11_stood _ _ _).trans ((gr_X11_stood _ _ _).trans (pbd fun _ => ?_)))
    refine x_if.trans (pif_ne ?_ ?_)
    · exact (zrun_c rfl).trans (glr_X11_value_62 _ _ _ _)
    · refine (t_X11_value_56 _ _ _ _ _).trans ?_
      refine x_goto.trans ?_
      exact (zrun_c rfl).trans (glr_X11_value_37 _ _ _ _)
theorem s_X11_value_37 {X : zX} (hX : zHX X) {c62 : zH → Int32 → Int32 → Option zH} (h62 : ∀ σ L st r, gl_X11_value_62 c62 σ L st = some r → zGW X 145 krV 62 σ L st r) : ∀ n σ L st r, gl_X11_value_37 (k_X11_value_37 c62 n) σ L st = some r → zGW X 145 krV 37 σ L st r := by
  intro n
  induction n with
  | zero =>
    intro σ L st r h
    unfold gl_X11_value_37 at h
    split at h <;> cases h
  | succ n ih =>
    intro σ L st r h
    unfold gl_X11_value_37 at h
    split at h
    · exact zin_ok (hy_X11_value hX) bk_X11_value (fun t f hf => by
      by_cases e37 : t = 37
      · rw [if_pos e37] at hf; subst e37; cases hf; exact ih
      rw [if_neg e37] at hf
      by_cases e62 : t = 62
      · rw [if_pos e62] at hf; subst e62; cases hf; exact h62
      rw [if_neg e62] at hf
      cases hf) ((e_X11_value_37 _ _ _ _ _).symm.trans h)
    · cases h
noncomputable def j_X11_value_62  (σ : zH) (x1 : Int32) (x2 : Int32) : Option zH :=
  if x2 = (σ.1 11 0 39) then
    (d_X11_fails σ (0 : Int32) x1).bind fun σ5 =>
    some σ5
  else
    (d_X11_isCounted σ x1).bind fun σ1 =>
    (d_X11_wordOf σ1 x2).bind fun p2 =>
    zlet (uI p2.1 11 0 31 ((σ1.1 11 0 31) + (Int32.ofNat (zsN p2.2)))) fun σ3 =>
    (d_X11_entry σ3 (1 : Int32) x2).bind fun σ4 =>
    some σ4
theorem e_X11_value_62  (σ : zH) (x1 : Int32) (x2 : Int32)  : j_X11_value_62 σ x1 x2 = zin cc_X11_value (fun t => none) 9 krV b_X11_value 62 σ [vR 11 0, vI x1, vI x2] [] := by
  unfold j_X11_value_62
  refine Eq.symm ((zin_b (es := q_X11_value_62) rfl).trans ?_)
  refine (t_X11_value_62 _ _ _ _).trans ?_
  refine x_icmp.trans (pif_ne ?_ ?_)
  · refine (zrun_b (es := q_X11_value_77) rfl rfl).trans ?_
    refine (t_X11_value_77 _ _ _ _).trans ?_
    refine (x_callV rfl rfl rfl rfl).trans ((cl_X11_value_X11_isCounted _ _ _).trans ((gr_X11_isCounted _ _ _).trans (pbd fun _ => ?_)))
    refine (t_X11_value_82 _ _ _ _).trans ?_
    refine (x_callS rfl rfl rfl rfl).trans ((cl_X11_value_X11_wordOf _ _ _).trans ((gr_X11_wordOf _ _ _).trans (pbd fun _ => ?_)))
    refine (t_X11_value_91 _ _ _ _ _ _).trans ?_
    refine x_pf0.trans (plt fun _ => ?_)
    refine (t_X11_value_98 _ _ _ _ _).trans ?_
    refine (x_callV rfl rfl rfl rfl).trans ((cl_X11_value_X11_entry _ _ _).trans ((gr_X11_entry _ _ _ _).trans (pbd fun _ => ?_)))
    exact x_vret
  · refine (t_X11_value_70 _ _ _ _ _).trans ?_
    refine (x_callV rfl rfl rfl rfl).trans ((cl_X11_value_X11_fails _ _ _).trans ((gr_X11_fails _ _ _ _).trans (pbd fun _ => ?_)))
    exact x_vret
theorem s_X11_value_62 {X : zX} (hX : zHX X)   : ∀ σ L st r, gl_X11_value_62 j_X11_value_62 σ L st = some r → zGW X 145 krV 62 σ L st r := by
  intro σ L st r h
  unfold gl_X11_value_62 at h
  split at h
  · exact zin_ok (hy_X11_value hX) bk_X11_value (fun t f hf => by
    cases hf) ((e_X11_value_62 _ _ _).symm.trans h)
  · cases h
noncomputable def d_X11_value (σ : zH)  : Option zH :=
  (d_X11_blanks σ).bind fun σ1 =>
  (d_X11_isDigit σ1).bind fun p2 =>
  if p2.2 = 0 then
    (k_X11_value_37 j_X11_value_62 zN) p2.1 (σ1.1 11 0 31) (0 : Int32)
  else
    (d_X11_digits p2.1 (99999 : Int32)).bind fun p3 =>
    (d_X11_isCounted p3.1 (σ1.1 11 0 31)).bind fun σ4 =>
    (d_X11_entry σ4 (0 : Int32) p3.2).bind fun σ5 =>
    some σ5
theorem e_X11_value (σ : zH)  : d_X11_value σ = zin cc_X11_value (fun t => if t = 37 then some (gl_X11_value_37 (k_X11_value_37 j_X11_value_62 zN)) else none) 9 krV b_X11_value 0 σ [vR 11 0, vU, vU] [] := by
  unfold d_X11_value
  refine Eq.symm ((zin_b (es := q_X11_value_0) rfl).trans ?_)
  refine (t_X11_value_0 _ _ _ _).trans ?_
  refine (x_callV rfl rfl rfl rfl).trans ((cl_X11_value_X11_blanks _ _ _).trans ((gr_X11_blanks _ _).trans (pbd fun _ => ?_)))
  refine (t_X11_value_4 _ _ _ _).trans ?_
  refine (x_callV rfl rfl rfl rfl).trans ((cl_X11_value_X11_isDigit _ _ _).trans ((gr_X11_isDigit _ _).trans (pbd fun _ => ?_)))
  refine x_if.trans (pif_eq ?_ ?_)
  · refine (zrun_b (es := q_X11_value_35) rfl rfl).trans ?_
    refine (t_X11_value_35 _ _ _ _ _).trans ?_
    refine x_cut.trans ?_
    exact (zrun_c rfl).trans (glr_X11_value_37 _ _ _ _)
  · refine (t_X11_value_16 _ _ _ _ _).trans ?_
    refine (x_callV rfl rfl rfl rfl).trans ((cl_X11_value_X11_digits _ _ _).trans ((gr_X11_digits _ _ _).trans (pbd fun _ => ?_)))
    refine (t_X11_value_22 _ _ _ _ _).trans ?_
    refine (x_callV rfl rfl rfl rfl).trans ((cl_X11_value_X11_isCounted _ _ _).trans ((gr_X11_isCounted _ _ _).trans (pbd fun _ => ?_)))
    refine (t_X11_value_28 _ _ _ _ _).trans ?_
    refine (x_callV rfl rfl rfl rfl).trans ((cl_X11_value_X11_entry _ _ _).trans ((gr_X11_entry _ _ _ _).trans (pbd fun _ => ?_)))
    exact x_vret
noncomputable def g_X11_value {ρ : Type} (σ : zH) (av : List zAV) (q : zH → zAV → Option ρ) : Option ρ := match av with
  | [.inr (.inr (.inl (11, 0)))] => (d_X11_value σ).bind fun σ => q σ vU
  | _ => none
theorem gr_X11_value {ρ : Type} (σ : zH)  (q : zH → zAV → Option ρ) : g_X11_value σ [vR 11 0] q = (d_X11_value σ).bind fun σ => q σ vU := rfl
theorem c_X11_value {ρ : Type} {X : zX} (hX : zHX X) {σ : zH} {av : List zAV} {q : zH → zAV → Option ρ} {r : ρ} (h : g_X11_value σ av q = some r) (hv : ∀ a ∈ av, zval X a) : zcon X 145 σ av q r := by
  unfold g_X11_value at h
  split at h
  · exact zcon_V (n := 145) (ml := 3) (rc := 9) (st := 0) (kd := 11) (np := 0) (by decide +kernel) rfl ⟨_, _, rfl, rfl⟩ (Nat.le_of_ble_eq_true rfl) hv h (fun y h1 => (zin_ok (hy_X11_value hX) bk_X11_value (fun t f hf => by
      by_cases e37 : t = 37
      · rw [if_pos e37] at hf; subst e37; cases hf; exact ((fun σ L st r h => s_X11_value_37 hX (s_X11_value_62 hX) zN σ L st r h))
      rw [if_neg e37] at hf
      cases hf) ((e_X11_value _).symm.trans h1)))
  · cases h
/-! SleepWavesModel.term()V -/
def q_X11_term_5 : List zEnt := zEc 5 (.invokevirtual 230) 3 139 1 119 1 :: [zE 8 .nop 0]
def q_X11_term_4 : List zEnt := zE 4 (.aload_n 0) 1 :: q_X11_term_5
def q_X11_term_1 : List zEnt := zEc 1 (.invokevirtual 269) 3 145 1 139 1 :: q_X11_term_4
def q_X11_term_0 : List zEnt := zE 0 (.aload_n 0) 1 :: q_X11_term_1
def q_X11_term_39 : List zEnt := zEa 39 (.if_icmp .ne 61) 3 100 :: [zE 42 .nop 0]
def q_X11_term_37 : List zEnt := zEk 37 (.bipush 37) 2 37 :: q_X11_term_39
def q_X11_term_34 : List zEnt := zEc 34 (.invokevirtual 214) 3 138 1 120 0 :: q_X11_term_37
def q_X11_term_33 : List zEnt := zE 33 (.aload_n 0) 1 :: q_X11_term_34
def q_X11_term_30 : List zEnt := zEa 30 (.if_icmp .eq 12) 3 42 :: q_X11_term_33
def q_X11_term_28 : List zEnt := zEk 28 (.bipush 47) 2 47 :: q_X11_term_30
def q_X11_term_25 : List zEnt := zEc 25 (.invokevirtual 214) 3 138 1 120 0 :: q_X11_term_28
def q_X11_term_24 : List zEnt := zE 24 (.aload_n 0) 1 :: q_X11_term_25
def q_X11_term_21 : List zEnt := zEa 21 (.if_icmp .eq 21) 3 42 :: q_X11_term_24
def q_X11_term_19 : List zEnt := zEk 19 (.bipush 42) 2 42 :: q_X11_term_21
def q_X11_term_16 : List zEnt := zEc 16 (.invokevirtual 214) 3 138 1 120 0 :: q_X11_term_19
def q_X11_term_15 : List zEnt := zE 15 (.aload_n 0) 1 :: q_X11_term_16
def q_X11_term_12 : List zEnt := zEa 12 (.ifCond .ne 88) 3 100 :: q_X11_term_15
def q_X11_term_8 : List zEnt := zE 8 (.aload_n 0) 1 :: zEf 9 (.getfield 208) 3 11 32 180 (0, 0, 0) :: q_X11_term_12
def q_X11_term_53 : List zEnt := zEa 53 (.goto 19) 3 72 :: []
def q_X11_term_51 : List zEnt := zEk 51 (.bipush 13) 2 13 :: q_X11_term_53
def q_X11_term_48 : List zEnt := zEa 48 (.if_icmp .ne 8) 3 56 :: q_X11_term_51
def q_X11_term_46 : List zEnt := zEk 46 (.bipush 42) 2 42 :: q_X11_term_48
def q_X11_term_43 : List zEnt := zEc 43 (.invokevirtual 214) 3 138 1 120 0 :: q_X11_term_46
def q_X11_term_42 : List zEnt := zE 42 (.aload_n 0) 1 :: q_X11_term_43
def q_X11_term_67 : List zEnt := zEa 67 (.goto 5) 3 72 :: []
def q_X11_term_65 : List zEnt := zEk 65 (.bipush 14) 2 14 :: q_X11_term_67
def q_X11_term_62 : List zEnt := zEa 62 (.if_icmp .ne 8) 3 70 :: q_X11_term_65
def q_X11_term_60 : List zEnt := zEk 60 (.bipush 47) 2 47 :: q_X11_term_62
def q_X11_term_57 : List zEnt := zEc 57 (.invokevirtual 214) 3 138 1 120 0 :: q_X11_term_60
def q_X11_term_56 : List zEnt := zE 56 (.aload_n 0) 1 :: q_X11_term_57
def q_X11_term_70 : List zEnt := zEk 70 (.bipush 15) 2 15 :: [zE 72 .nop 0]
def q_X11_term_97 : List zEnt := zEa 97 (.goto (-89)) 3 8 :: []
def q_X11_term_94 : List zEnt := zEc 94 (.invokevirtual 230) 3 139 1 119 1 :: q_X11_term_97
def q_X11_term_93 : List zEnt := zE 93 (.aload_n 0) 1 :: q_X11_term_94
def q_X11_term_90 : List zEnt := zEc 90 (.invokevirtual 262) 3 142 3 141 1 :: q_X11_term_93
def q_X11_term_87 : List zEnt := zE 87 (.aload_n 0) 1 :: zE 88 (.iload_n 1) 1 :: zEk 89 (.iconst 0) 1 0 :: q_X11_term_90
def q_X11_term_84 : List zEnt := zEc 84 (.invokevirtual 269) 3 145 1 139 1 :: q_X11_term_87
def q_X11_term_83 : List zEnt := zE 83 (.aload_n 0) 1 :: q_X11_term_84
def q_X11_term_80 : List zEnt := zEf 80 (.putfield 211) 3 11 31 179 (0, 0, 0) :: q_X11_term_83
def q_X11_term_72 : List zEnt := zE 72 (.istore_n 1) 1 :: zE 73 (.aload_n 0) 1 :: zE 74 .dup 1 :: zEf 75 (.getfield 211) 3 11 31 179 (0, 0, 0) :: zEk 78 (.iconst 1) 1 1 :: zE 79 .iadd 1 :: q_X11_term_80
def q_X11_term_100 : List zEnt := zE 100 .return_ 1 :: []
def b_X11_term : List (Nat × List zEnt) := [(0, q_X11_term_0), (8, q_X11_term_8), (42, q_X11_term_42), (56, q_X11_term_56), (70, q_X11_term_70), (72, q_X11_term_72), (100, q_X11_term_100)]
theorem bk_X11_term : zchB 146 b_X11_term = true := by decide +kernel
noncomputable def cc_X11_term {ρ : Type} : Nat → zH → List zAV → (zH → zAV → Option ρ) → Option ρ := fun n σ av q => if n = 145 then g_X11_value σ av q else if n = 139 then g_X11_blanks σ av q else if n = 138 then g_X11_sign σ av q else if n = 142 then g_X11_entry σ av q else none
theorem cs_X11_term {ρ : Type} {X : zX} (hX : zHX X) : zCS X (cc_X11_term (ρ := ρ)) := by
  intro n σ av q r h hv
  unfold cc_X11_term at h
  by_cases e_X11_value : n = 145
  · rw [if_pos e_X11_value] at h
    subst e_X11_value
    exact c_X11_value hX h hv
  rw [if_neg e_X11_value] at h
  by_cases e_X11_blanks : n = 139
  · rw [if_pos e_X11_blanks] at h
    subst e_X11_blanks
    exact c_X11_blanks hX h hv
  rw [if_neg e_X11_blanks] at h
  by_cases e_X11_sign : n = 138
  · rw [if_pos e_X11_sign] at h
    subst e_X11_sign
    exact c_X11_sign hX h hv
  rw [if_neg e_X11_sign] at h
  by_cases e_X11_entry : n = 142
  · rw [if_pos e_X11_entry] at h
    subst e_X11_entry
    exact c_X11_entry hX h hv
  rw [if_neg e_X11_entry] at h
  cases h
theorem cl_X11_term_X11_value {ρ : Type} (σ : zH) (av : List zAV) (q : zH → zAV → Option ρ) : cc_X11_term 145 σ av q = g_X11_value σ av q := rfl
theorem cl_X11_term_X11_blanks {ρ : Type} (σ : zH) (av : List zAV) (q : zH → zAV → Option ρ) : cc_X11_term 139 σ av q = g_X11_blanks σ av q := rfl
theorem cl_X11_term_X11_sign {ρ : Type} (σ : zH) (av : List zAV) (q : zH → zAV → Option ρ) : cc_X11_term 138 σ av q = g_X11_sign σ av q := rfl
theorem cl_X11_term_X11_entry {ρ : Type} (σ : zH) (av : List zAV) (q : zH → zAV → Option ρ) : cc_X11_term 142 σ av q = g_X11_entry σ av q := rfl
theorem hy_X11_term {ρ : Type} {X : zX} (hX : zHX X) : zHY X 146 (cc_X11_term (ρ := ρ)) := zHX.hY hX (cs_X11_term hX) (zmok_all 146 (by decide))
def gl_X11_term_8 {ρ : Type} (f : zH → Option ρ) (σ : zH) (L st : List zAV) : Option ρ := match L, st with
  | [.inr (.inr (.inl (11, 0))), _], [] => f σ
  | _, _ => none
def gl_X11_term_42 {ρ : Type} (f : zH → Option ρ) (σ : zH) (L st : List zAV) : Option ρ := match L, st with
  | [.inr (.inr (.inl (11, 0))), _], [] => f σ
  | _, _ => none
def gl_X11_term_72 {ρ : Type} (f : zH → Int32 → Option ρ) (σ : zH) (L st : List zAV) : Option ρ := match L, st with
  | [.inr (.inr (.inl (11, 0))), _], [.inl xs0] => f σ xs0
  | _, _ => none
theorem glr_X11_term_8 {ρ : Type} (f : zH → Option ρ) (σ : zH)  (y1 : zAV) : gl_X11_term_8 f σ [vR 11 0, y1] [] = f σ := rfl
theorem glr_X11_term_42 {ρ : Type} (f : zH → Option ρ) (σ : zH)  (y1 : zAV) : gl_X11_term_42 f σ [vR 11 0, y1] [] = f σ := rfl
theorem glr_X11_term_72 {ρ : Type} (f : zH → Int32 → Option ρ) (σ : zH) (xs0 : Int32) (y1 : zAV) : gl_X11_term_72 f σ [vR 11 0, y1] [vI xs0] = f σ xs0 := rfl
theorem t_X11_term_0 {G : Nat → zH → List zAV → List zAV → Option zH} (es : List zEnt) (σ : zH)  (y1 : zAV)  : zev cc_X11_term G 9 krV (zE 0 (.aload_n 0) 1 :: es) σ [vR 11 0, y1] [] = zev cc_X11_term G 9 krV es σ [vR 11 0, y1] [vR 11 0] := rfl
theorem t_X11_term_4 {G : Nat → zH → List zAV → List zAV → Option zH} (es : List zEnt) (σ : zH)  (y1 : zAV)  : zev cc_X11_term G 9 krV (zE 4 (.aload_n 0) 1 :: es) σ [vR 11 0, y1] [] = zev cc_X11_term G 9 krV es σ [vR 11 0, y1] [vR 11 0] := rfl
theorem t_X11_term_8 {G : Nat → zH → List zAV → List zAV → Option zH} (es : List zEnt) (σ : zH)  (y1 : zAV)  : zev cc_X11_term G 9 krV (zE 8 (.aload_n 0) 1 :: zEf 9 (.getfield 208) 3 11 32 180 (0, 0, 0) :: es) σ [vR 11 0, y1] [] = zev cc_X11_term G 9 krV es σ [vR 11 0, y1] [vI (σ.1 11 0 32)] := rfl
theorem t_X11_term_15 {G : Nat → zH → List zAV → List zAV → Option zH} (es : List zEnt) (σ : zH)  (y1 : zAV)  : zev cc_X11_term G 9 krV (zE 15 (.aload_n 0) 1 :: es) σ [vR 11 0, y1] [] = zev cc_X11_term G 9 krV es σ [vR 11 0, y1] [vR 11 0] := rfl
theorem t_X11_term_19 {G : Nat → zH → List zAV → List zAV → Option zH} (es : List zEnt) (σ : zH) (xs0 : Int32) (y1 : zAV) (w19 : Int32) : zev cc_X11_term G 9 krV (zEk 19 (.bipush 42) 2 w19 :: es) σ [vR 11 0, y1] [vI xs0] = zev cc_X11_term G 9 krV es σ [vR 11 0, y1] [vI w19, vI xs0] := rfl
theorem t_X11_term_24 {G : Nat → zH → List zAV → List zAV → Option zH} (es : List zEnt) (σ : zH)  (y1 : zAV)  : zev cc_X11_term G 9 krV (zE 24 (.aload_n 0) 1 :: es) σ [vR 11 0, y1] [] = zev cc_X11_term G 9 krV es σ [vR 11 0, y1] [vR 11 0] := rfl
theorem t_X11_term_28 {G : Nat → zH → List zAV → List zAV → Option zH} (es : List zEnt) (σ : zH) (xs0 : Int32) (y1 : zAV) (w28 : Int32) : zev cc_X11_term G 9 krV (zEk 28 (.bipush 47) 2 w28 :: es) σ [vR 11 0, y1] [vI xs0] = zev cc_X11_term G 9 krV es σ [vR 11 0, y1] [vI w28, vI xs0] := rfl
theorem t_X11_term_33 {G : Nat → zH → List zAV → List zAV → Option zH} (es : List zEnt) (σ : zH)  (y1 : zAV)  : zev cc_X11_term G 9 krV (zE 33 (.aload_n 0) 1 :: es) σ [vR 11 0, y1] [] = zev cc_X11_term G 9 krV es σ [vR 11 0, y1] [vR 11 0] := rfl
theorem t_X11_term_37 {G : Nat → zH → List zAV → List zAV → Option zH} (es : List zEnt) (σ : zH) (xs0 : Int32) (y1 : zAV) (w37 : Int32) : zev cc_X11_term G 9 krV (zEk 37 (.bipush 37) 2 w37 :: es) σ [vR 11 0, y1] [vI xs0] = zev cc_X11_term G 9 krV es σ [vR 11 0, y1] [vI w37, vI xs0] := rfl
theorem t_X11_term_42 {G : Nat → zH → List zAV → List zAV → Option zH} (es : List zEnt) (σ : zH)  (y1 : zAV)  : zev cc_X11_term G 9 krV (zE 42 (.aload_n 0) 1 :: es) σ [vR 11 0, y1] [] = zev cc_X11_term G 9 krV es σ [vR 11 0, y1] [vR 11 0] := rfl
theorem t_X11_term_46 {G : Nat → zH → List zAV → List zAV → Option zH} (es : List zEnt) (σ : zH) (xs0 : Int32) (y1 : zAV) (w46 : Int32) : zev cc_X11_term G 9 krV (zEk 46 (.bipush 42) 2 w46 :: es) σ [vR 11 0, y1] [vI xs0] = zev cc_X11_term G 9 krV es σ [vR 11 0, y1] [vI w46, vI xs0] := rfl
theorem t_X11_term_51 {G : Nat → zH → List zAV → List zAV → Option zH} (es : List zEnt) (σ : zH)  (y1 : zAV) (w51 : Int32) : zev cc_X11_term G 9 krV (zEk 51 (.bipush 13) 2 w51 :: es) σ [vR 11 0, y1] [] = zev cc_X11_term G 9 krV es σ [vR 11 0, y1] [vI w51] := rfl
theorem t_X11_term_56 {G : Nat → zH → List zAV → List zAV → Option zH} (es : List zEnt) (σ : zH)  (y1 : zAV)  : zev cc_X11_term G 9 krV (zE 56 (.aload_n 0) 1 :: es) σ [vR 11 0, y1] [] = zev cc_X11_term G 9 krV es σ [vR 11 0, y1] [vR 11 0] := rfl
theorem t_X11_term_60 {G : Nat → zH → List zAV → List zAV → Option zH} (es : List zEnt) (σ : zH) (xs0 : Int32) (y1 : zAV) (w60 : Int32) : zev cc_X11_term G 9 krV (zEk 60 (.bipush 47) 2 w60 :: es) σ [vR 11 0, y1] [vI xs0] = zev cc_X11_term G 9 krV es σ [vR 11 0, y1] [vI w60, vI xs0] := rfl
theorem t_X11_term_65 {G : Nat → zH → List zAV → List zAV → Option zH} (es : List zEnt) (σ : zH)  (y1 : zAV) (w65 : Int32) : zev cc_X11_term G 9 krV (zEk 65 (.bipush 14) 2 w65 :: es) σ [vR 11 0, y1] [] = zev cc_X11_term G 9 krV es σ [vR 11 0, y1] [vI w65] := rfl
theorem t_X11_term_70 {G : Nat → zH → List zAV → List zAV → Option zH} (es : List zEnt) (σ : zH)  (y1 : zAV) (w70 : Int32) : zev cc_X11_term G 9 krV (zEk 70 (.bipush 15) 2 w70 :: es) σ [vR 11 0, y1] [] = zev cc_X11_term G 9 krV es σ [vR 11 0, y1] [vI w70] := rfl
theorem t_X11_term_72 {G : Nat → zH → List zAV → List zAV → Option zH} (es : List zEnt) (σ : zH) (xs0 : Int32) (y1 : zAV) (w78 : Int32) : zev cc_X11_term G 9 krV (zE 72 (.istore_n 1) 1 :: zE 73 (.aload_n 0) 1 :: zE 74 .dup 1 :: zEf 75 (.getfield 211) 3 11 31 179 (0, 0, 0) :: zEk 78 (.iconst 1) 1 w78 :: zE 79 .iadd 1 :: es) σ [vR 11 0, y1] [vI xs0] = zev cc_X11_term G 9 krV es σ [vR 11 0, vI xs0] [vI ((σ.1 11 0 31) + w78), vR 11 0] := rfl
theorem t_X11_term_83 {G : Nat → zH → List zAV → List zAV → Option zH} (es : List zEnt) (σ : zH) (x1 : Int32)   : zev cc_X11_term G 9 krV (zE 83 (.aload_n 0) 1 :: es) σ [vR 11 0, vI x1] [] = zev cc_X11_term G 9 krV es σ [vR 11 0, vI x1] [vR 11 0] := rfl
theorem t_X11_term_87 {G : Nat → zH → List zAV → List zAV → Option zH} (es : List zEnt) (σ : zH) (x1 : Int32)  (w89 : Int32) : zev cc_X11_term G 9 krV (zE 87 (.aload_n 0) 1 :: zE 88 (.iload_n 1) 1 :: zEk 89 (.iconst 0) 1 w89 :: es) σ [vR 11 0, vI x1] [] = zev cc_X11_term G 9 krV es σ [vR 11 0, vI x1] [vI w89, vI x1, vR 11 0] := rfl
theorem t_X11_term_93 {G : Nat → zH → List zAV → List zAV → Option zH} (es : List zEnt) (σ : zH)  (y1 : zAV)  : zev cc_X11_term G 9 krV (zE 93 (.aload_n 0) 1 :: es) σ [vR 11 0, y1] [] = zev cc_X11_term G 9 krV es σ [vR 11 0, y1] [vR 11 0] := rfl
noncomputable def j_X11_term_72 (c8 : zH → Option zH) (σ : zH) (xs0 : Int32) : Option zH :=
  zlet (uI σ 11 0 31 ((σ.1 11 0 31) + (1 : Int32))) fun σ1 =>
  (d_X11_value σ1).bind fun σ2 =>
  (d_X11_entry σ2 xs0 (0 : Int32)).bind fun σ3 =>
  (d_X11_blanks σ3).bind fun σ4 =>
  c8 σ4
theorem e_X11_term_72 (c8 : zH → Option zH) (σ : zH) (xs0 : Int32) (y1 : zAV) : j_X11_term_72 c8 σ xs0 = zin cc_X11_term (fun t => if t = 8 then some (gl_X11_term_8 c8) else none) 9 krV b_X11_term 72 σ [vR 11 0, y1] [vI xs0] := by
  unfold j_X11_term_72
  refine Eq.symm ((zin_b (es := q_X11_term_72) rfl).trans ?_)
  refine (t_X11_term_72 _ _ _ _ _).trans ?_
  refine x_pf0.trans (plt fun _ => ?_)
  refine (t_X11_term_83 _ _ _).trans ?_
  refine (x_callV rfl rfl rfl rfl).trans ((cl_X11_term_X11_value _ _ _).trans ((gr_X11_value _ _).trans (pbd fun _ => ?_)))
  refine (t_X11_term_87 _ _ _ _).trans ?_
  refine (x_callV rfl rfl rfl rfl).trans ((cl_X11_term_X11_entry _ _ _).trans ((gr_X11_entry _ _ _ _).trans (pbd fun _ => ?_)))
  refine (t_X11_term_93 _ _ _).trans ?_
  refine (x_callV rfl rfl rfl rfl).trans ((cl_X11_term_X11_blanks _ _ _).trans ((gr_X11_blanks _ _).trans (pbd fun _ => ?_)))
  refine x_goto.trans ?_
  exact (zrun_c rfl).trans (glr_X11_term_8 _ _ _)
theorem s_X11_term_72 {X : zX} (hX : zHX X) {c8 : zH → Option zH} (h8 : ∀ σ L st r, gl_X11_term_8 c8 σ L st = some r → zGW X 146 krV 8 σ L st r) : ∀ σ L st r, gl_X11_term_72 (j_X11_term_72 c8) σ L st = some r → zGW X 146 krV 72 σ L st r := by
  intro σ L st r h
  unfold gl_X11_term_72 at h
  split at h
  · exact zin_ok (hy_X11_term hX) bk_X11_term (fun t f hf => by
    by_cases e8 : t = 8
    · rw [if_pos e8] at hf; subst e8; cases hf; exact h8
    rw [if_neg e8] at hf
    cases hf) ((e_X11_term_72 _ _ _ _).symm.trans h)
  · cases h
noncomputable def j_X11_term_42 (c8 : zH → Option zH) (σ : zH)  : Option zH :=
  (d_X11_sign σ).bind fun p1 =>
  if p1.2 = (42 : Int32) then
    (j_X11_term_72 c8) p1.1 (13 : Int32)
  else
    (d_X11_sign p1.1).bind fun p2 =>
    if p2.2 = (47 : Int32) then
      (j_X11_term_72 c8) p2.1 (14 : Int32)
    else
      (j_X11_term_72 c8) p2.1 (15 : Int32)
theorem e_X11_term_42 (c8 : zH → Option zH) (σ : zH)  (y1 : zAV) : j_X11_term_42 c8 σ = zin cc_X11_term (fun t => if t = 72 then some (gl_X11_term_72 (j_X11_term_72 c8)) else none) 9 krV b_X11_term 42 σ [vR 11 0, y1] [] := by
  unfold j_X11_term_42
  refine Eq.symm ((zin_b (es := q_X11_term_42) rfl).trans ?_)
  refine (t_X11_term_42 _ _ _).trans ?_
  refine (x_callV rfl rfl rfl rfl).trans ((cl_X11_term_X11_sign _ _ _).trans ((gr_X11_sign _ _).trans (pbd fun _ => ?_)))
  refine (t_X11_term_46 _ _ _ _ _).trans ?_
  refine x_icmp.trans (pif_ne ?_ ?_)
  · refine (zrun_b (es := q_X11_term_56) rfl rfl).trans ?_
    refine (t_X11_term_56 _ _ _).trans ?_
    refine (x_callV rfl rfl rfl rfl).trans ((cl_X11_term_X11_sign _ _ _).trans ((gr_X11_sign _ _).trans (pbd fun _ => ?_)))
    refine (t_X11_term_60 _ _ _ _ _).trans ?_
    refine x_icmp.trans (pif_ne ?_ ?_)
    · refine (zrun_b (es := q_X11_term_70) rfl rfl).trans ?_
      refine (t_X11_term_70 _ _ _ _).trans ?_
      refine x_cut.trans ?_
      exact (zrun_c rfl).trans (glr_X11_term_72 _ _ _ _)
    · refine (t_X11_term_65 _ _ _ _).trans ?_
      refine x_goto.trans ?_
      exact (zrun_c rfl).trans (glr_X11_term_72 _ _ _ _)
  · refine (t_X11_term_51 _ _ _ _).trans ?_
    refine x_goto.trans ?_
    exact (zrun_c rfl).trans (glr_X11_term_72 _ _ _ _)
theorem s_X11_term_42 {X : zX} (hX : zHX X) {c8 : zH → Option zH} (h8 : ∀ σ L st r, gl_X11_term_8 c8 σ L st = some r → zGW X 146 krV 8 σ L st r) : ∀ σ L st r, gl_X11_term_42 (j_X11_term_42 c8) σ L st = some r → zGW X 146 krV 42 σ L st r := by
  intro σ L st r h
  unfold gl_X11_term_42 at h
  split at h
  · exact zin_ok (hy_X11_term hX) bk_X11_term (fun t f hf => by
    by_cases e72 : t = 72
    · rw [if_pos e72] at hf; subst e72; cases hf; exact (s_X11_term_72 hX h8)
    rw [if_neg e72] at hf
    cases hf) ((e_X11_term_42 _ _ _).symm.trans h)
  · cases h
noncomputable def k_X11_term_8  : Nat → zH → Option zH
  | 0, _ => none
  | n + 1, σ =>
    if (σ.1 11 0 32) = 0 then
      (d_X11_sign σ).bind fun p1 =>
      if p1.2 = (42 : Int32) then
        (j_X11_term_42 (k_X11_term_8 n)) p1.1
      else
        (d_X11_sign p1.1).bind fun p2 =>
        if p2.2 = (47 : Int32) then
          (j_X11_term_42 (k_X11_term_8 n)) p2.1
        else
          (d_X11_sign p2.1).bind fun p3 =>
          if p3.2 = (37 : Int32) then
            (j_X11_term_42 (k_X11_term_8 n)) p3.1
          else
            some p3.1
    else
      some σ
theorem e_X11_term_8  (n : Nat) (σ : zH)  (y1 : zAV) : k_X11_term_8 (n + 1) σ = zin cc_X11_term (fun t => if t = 42 then some (gl_X11_term_42 (j_X11_term_42 (k_X11_term_8 n))) else none) 9 krV b_X11_term 8 σ [vR 11 0, y1] [] := by
  rw [k_X11_term_8]
  refine Eq.symm ((zin_b (es := q_X11_term_8) rfl).trans ?_)
  refine (t_X11_term_8 _ _ _).trans ?_
  refine x_if.trans (pif_ne ?_ ?_)
  · refine (zrun_b (es := q_X11_term_100) rfl rfl).trans ?_
    exact x_vret
  · refine (t_X11_term_15 _ _ _).trans ?_
    refine (x_callV rfl rfl rfl rfl).trans ((cl_X11_term_X11_sign _ _ _).trans ((gr_X11_sign _ _).trans (pbd fun _ => ?_)))
    refine (t_X11_term_19 _ _ _ _ _).trans ?_
    refine x_icmp.trans (pif_eq ?_ ?_)
    · exact (zrun_c rfl).trans (glr_X11_term_42 _ _ _)
    · refine (t_X11_term_24 _ _ _).trans ?_
      refine (x_callV rfl rfl rfl rfl).trans ((cl_X11_term_X11_sign _ _ _).trans ((gr_X11_sign _ _).trans (pbd fun _ => ?_)))
      refine (t_X11_term_28 _ _ _ _ _).trans ?_
      refine x_icmp.trans (pif_eq ?_ ?_)
      · exact (zrun_c rfl).trans (glr_X11_term_42 _ _ _)
      · refine (t_X11_term_33 _ _ _).trans ?_
        refine (x_callV rfl rfl rfl rfl).trans ((cl_X11_term_X11_sign _ _ _).trans ((gr_X11_sign _ _).trans (pbd fun _ => ?_)))
        refine (t_X11_term_37 _ _ _ _ _).trans ?_
        refine x_icmp.trans (pif_ne ?_ ?_)
        · refine (zrun_b (es := q_X11_term_100) rfl rfl).trans ?_
          exact x_vret
        · refine x_cut.trans ?_
          exact (zrun_c rfl).trans (glr_X11_term_42 _ _ _)
theorem s_X11_term_8 {X : zX} (hX : zHX X)   : ∀ n σ L st r, gl_X11_term_8 (k_X11_term_8 n) σ L st = some r → zGW X 146 krV 8 σ L st r := by
  intro n
  induction n with
  | zero =>
    intro σ L st r h
    unfold gl_X11_term_8 at h
    split at h <;> cases h
  | succ n ih =>
    intro σ L st r h
    unfold gl_X11_term_8 at h
    split at h
    · exact zin_ok (hy_X11_term hX) bk_X11_term (fun t f hf => by
      by_cases e42 : t = 42
      · rw [if_pos e42] at hf; subst e42; cases hf; exact (s_X11_term_42 hX ih)
      rw [if_neg e42] at hf
      cases hf) ((e_X11_term_8 _ _ _).symm.trans h)
    · cases h
noncomputable def d_X11_term (σ : zH)  : Option zH :=
  (d_X11_value σ).bind fun σ1 =>
  (d_X11_blanks σ1).bind fun σ2 =>
  (k_X11_term_8 zN) σ2
theorem e_X11_term (σ : zH)  : d_X11_term σ = zin cc_X11_term (fun t => if t = 8 then some (gl_X11_term_8 (k_X11_term_8 zN)) else none) 9 krV b_X11_term 0 σ [vR 11 0, vU] [] := by
  unfold d_X11_term
  refine Eq.symm ((zin_b (es := q_X11_term_0) rfl).trans ?_)
  refine (t_X11_term_0 _ _ _).trans ?_
  refine (x_callV rfl rfl rfl rfl).trans ((cl_X11_term_X11_value _ _ _).trans ((gr_X11_value _ _).trans (pbd fun _ => ?_)))
  refine (t_X11_term_4 _ _ _).trans ?_
  refine (x_callV rfl rfl rfl rfl).trans ((cl_X11_term_X11_blanks _ _ _).trans ((gr_X11_blanks _ _).trans (pbd fun _ => ?_)))
  refine x_cut.trans ?_
  exact (zrun_c rfl).trans (glr_X11_term_8 _ _ _)
noncomputable def g_X11_term {ρ : Type} (σ : zH) (av : List zAV) (q : zH → zAV → Option ρ) : Option ρ := match av with
  | [.inr (.inr (.inl (11, 0)))] => (d_X11_term σ).bind fun σ => q σ vU
  | _ => none
theorem gr_X11_term {ρ : Type} (σ : zH)  (q : zH → zAV → Option ρ) : g_X11_term σ [vR 11 0] q = (d_X11_term σ).bind fun σ => q σ vU := rfl
theorem c_X11_term {ρ : Type} {X : zX} (hX : zHX X) {σ : zH} {av : List zAV} {q : zH → zAV → Option ρ} {r : ρ} (h : g_X11_term σ av q = some r) (hv : ∀ a ∈ av, zval X a) : zcon X 146 σ av q r := by
  unfold g_X11_term at h
  split at h
  · exact zcon_V (n := 146) (ml := 2) (rc := 9) (st := 0) (kd := 11) (np := 0) (by decide +kernel) rfl ⟨_, _, rfl, rfl⟩ (Nat.le_of_ble_eq_true rfl) hv h (fun y h1 => (zin_ok (hy_X11_term hX) bk_X11_term (fun t f hf => by
      by_cases e8 : t = 8
      · rw [if_pos e8] at hf; subst e8; cases hf; exact ((fun σ L st r h => s_X11_term_8 hX  zN σ L st r h))
      rw [if_neg e8] at hf
      cases hf) ((e_X11_term _).symm.trans h1)))
  · cases h
