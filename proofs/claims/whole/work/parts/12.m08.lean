/-! SleepWavesModel.lawClause(I)V -/
def q_X11_lawClause_37 : List zEnt := zE 37 .return_ 1 :: []
def q_X11_lawClause_34 : List zEnt := zEc 34 (.invokevirtual 246) 3 137 3 123 1 :: q_X11_lawClause_37
def q_X11_lawClause_31 : List zEnt := zE 31 (.aload_n 0) 1 :: zEk 32 (.iconst 0) 1 0 :: zE 33 (.iload_n 2) 1 :: q_X11_lawClause_34
def q_X11_lawClause_28 : List zEnt := zEa 28 (.ifCond .ne 10) 3 38 :: q_X11_lawClause_31
def q_X11_lawClause_25 : List zEnt := zEc 25 (.invokevirtual 233) 3 141 2 122 0 :: q_X11_lawClause_28
def q_X11_lawClause_21 : List zEnt := zE 21 (.aload_n 0) 1 :: (22, (.ldc_w 337), 3, (1, 24, 0, 0), (0, 0, 0), 0, 0, []) :: q_X11_lawClause_25
def q_X11_lawClause_18 : List zEnt := zEa 18 (.ifCond .ne 20) 3 38 :: q_X11_lawClause_21
def q_X11_lawClause_16 : List zEnt := zE 16 (.istore_n 3) 1 :: zE 17 (.iload_n 3) 1 :: q_X11_lawClause_18
def q_X11_lawClause_13 : List zEnt := zEc 13 (.invokevirtual 233) 3 141 2 122 0 :: q_X11_lawClause_16
def q_X11_lawClause_4 : List zEnt := zE 4 (.aload_n 0) 1 :: zEf 5 (.getfield 211) 3 11 31 179 (0, 0, 0) :: zE 8 (.istore_n 2) 1 :: zE 9 (.aload_n 0) 1 :: (10, (.ldc_w 335), 3, (1, 23, 0, 0), (0, 0, 0), 0, 0, []) :: q_X11_lawClause_13
def q_X11_lawClause_1 : List zEnt := zEc 1 (.invokevirtual 230) 3 139 1 119 1 :: q_X11_lawClause_4
def q_X11_lawClause_0 : List zEnt := zE 0 (.aload_n 0) 1 :: q_X11_lawClause_1
def q_X11_lawClause_50 : List zEnt := zE 50 .return_ 1 :: []
def q_X11_lawClause_47 : List zEnt := zEc 47 (.invokevirtual 246) 3 137 3 123 1 :: q_X11_lawClause_50
def q_X11_lawClause_44 : List zEnt := zE 44 (.aload_n 0) 1 :: zEk 45 (.iconst 4) 1 4 :: zE 46 (.iload_n 2) 1 :: q_X11_lawClause_47
def q_X11_lawClause_41 : List zEnt := zEa 41 (.if_icmp .ne 10) 3 51 :: q_X11_lawClause_44
def q_X11_lawClause_38 : List zEnt := zE 38 (.iload_n 1) 1 :: zEk 39 (.bipush 12) 2 12 :: q_X11_lawClause_41
def q_X11_lawClause_61 : List zEnt := zEa 61 (.goto 4) 3 65 :: []
def q_X11_lawClause_60 : List zEnt := zEk 60 (.iconst 4) 1 4 :: q_X11_lawClause_61
def q_X11_lawClause_57 : List zEnt := zEa 57 (.ifCond .eq 7) 3 64 :: q_X11_lawClause_60
def q_X11_lawClause_51 : List zEnt := zE 51 (.aload_n 0) 1 :: zE 52 .dup 1 :: zEf 53 (.getfield 211) 3 11 31 179 (0, 0, 0) :: zE 56 (.iload_n 3) 1 :: q_X11_lawClause_57
def q_X11_lawClause_64 : List zEnt := zEk 64 (.iconst 5) 1 5 :: [zE 65 .nop 0]
def q_X11_lawClause_91 : List zEnt := zEa 91 (.goto 4) 3 95 :: []
def q_X11_lawClause_90 : List zEnt := zEk 90 (.iconst 1) 1 1 :: q_X11_lawClause_91
def q_X11_lawClause_87 : List zEnt := zEa 87 (.ifCond .eq 7) 3 94 :: q_X11_lawClause_90
def q_X11_lawClause_69 : List zEnt := zEk 69 (.bipush 12) 2 12 :: zE 71 (.aload_n 0) 1 :: zEf 72 (.getfield 237) 3 11 33 181 (0, 0, 0) :: zE 75 .imul 1 :: zE 76 (.iload_n 1) 1 :: zE 77 .iadd 1 :: zE 78 (.istore 4) 2 :: zE 80 (.aload_n 0) 1 :: zEf 81 (.getfield 114) 3 11 45 193 (2, 74, 0) :: zE 84 (.iload 4) 2 :: zE 86 (.iload_n 3) 1 :: q_X11_lawClause_87
def q_X11_lawClause_66 : List zEnt := zEf 66 (.putfield 211) 3 11 31 179 (0, 0, 0) :: q_X11_lawClause_69
def q_X11_lawClause_65 : List zEnt := zE 65 .iadd 1 :: q_X11_lawClause_66
def q_X11_lawClause_94 : List zEnt := zEk 94 (.iconst 0) 1 0 :: [zE 95 .nop 0]
def q_X11_lawClause_122 : List zEnt := zE 122 .return_ 1 :: []
def q_X11_lawClause_121 : List zEnt := zE 121 .iastore 1 :: q_X11_lawClause_122
def q_X11_lawClause_111 : List zEnt := zE 111 (.aload_n 0) 1 :: zEf 112 (.getfield 120) 3 11 47 195 (2, 76, 0) :: zE 115 (.iload 4) 2 :: zE 117 (.aload_n 0) 1 :: zEf 118 (.getfield 240) 3 11 35 183 (0, 0, 0) :: q_X11_lawClause_121
def q_X11_lawClause_108 : List zEnt := zEc 108 (.invokevirtual 339) 3 153 1 133 1 :: q_X11_lawClause_111
def q_X11_lawClause_107 : List zEnt := zE 107 (.aload_n 0) 1 :: q_X11_lawClause_108
def q_X11_lawClause_106 : List zEnt := zE 106 .iastore 1 :: q_X11_lawClause_107
def q_X11_lawClause_96 : List zEnt := zE 96 (.aload_n 0) 1 :: zEf 97 (.getfield 117) 3 11 46 194 (2, 75, 0) :: zE 100 (.iload 4) 2 :: zE 102 (.aload_n 0) 1 :: zEf 103 (.getfield 240) 3 11 35 183 (0, 0, 0) :: q_X11_lawClause_106
def q_X11_lawClause_95 : List zEnt := zE 95 .iastore 1 :: q_X11_lawClause_96
def b_X11_lawClause : List (Nat × List zEnt) := [(0, q_X11_lawClause_0), (38, q_X11_lawClause_38), (51, q_X11_lawClause_51), (64, q_X11_lawClause_64), (65, q_X11_lawClause_65), (94, q_X11_lawClause_94), (95, q_X11_lawClause_95)]
theorem bk_X11_lawClause : zchB 162 b_X11_lawClause = true := by decide +kernel
noncomputable def cc_X11_lawClause {ρ : Type} : Nat → zH → List zAV → (zH → zAV → Option ρ) → Option ρ := fun n σ av q => if n = 139 then g_X11_blanks σ av q else if n = 141 then g_X11_stood σ av q else if n = 137 then g_X11_fails σ av q else if n = 153 then g_X11_test σ av q else none
theorem cs_X11_lawClause {ρ : Type} {X : zX} (hX : zHX X) : zCS X (cc_X11_lawClause (ρ := ρ)) := by
  intro n σ av q r h hv
  unfold cc_X11_lawClause at h
  by_cases e_X11_blanks : n = 139
  · rw [if_pos e_X11_blanks] at h
    subst e_X11_blanks
    exact c_X11_blanks hX h hv
  rw [if_neg e_X11_blanks] at h
  by_cases e_X11_stood : n = 141
  · rw [if_pos e_X11_stood] at h
    subst e_X11_stood
    exact c_X11_stood hX h hv
  rw [if_neg e_X11_stood] at h
  by_cases e_X11_fails : n = 137
  · rw [if_pos e_X11_fails] at h
    subst e_X11_fails
    exact c_X11_fails hX h hv
  rw [if_neg e_X11_fails] at h
  by_cases e_X11_test : n = 153
  · rw [if_pos e_X11_test] at h
    subst e_X11_test
    exact c_X11_test hX h hv
  rw [if_neg e_X11_test] at h
  cases h
theorem cl_X11_lawClause_X11_blanks {ρ : Type} (σ : zH) (av : List zAV) (q : zH → zAV → Option ρ) : cc_X11_lawClause 139 σ av q = g_X11_blanks σ av q := rfl
theorem cl_X11_lawClause_X11_stood {ρ : Type} (σ : zH) (av : List zAV) (q : zH → zAV → Option ρ) : cc_X11_lawClause 141 σ av q = g_X11_stood σ av q := rfl
theorem cl_X11_lawClause_X11_fails {ρ : Type} (σ : zH) (av : List zAV) (q : zH → zAV → Option ρ) : cc_X11_lawClause 137 σ av q = g_X11_fails σ av q := rfl
theorem cl_X11_lawClause_X11_test {ρ : Type} (σ : zH) (av : List zAV) (q : zH → zAV → Option ρ) : cc_X11_lawClause 153 σ av q = g_X11_test σ av q := rfl
theorem hy_X11_lawClause {ρ : Type} {X : zX} (hX : zHX X) : zHY X 162 (cc_X11_lawClause (ρ := ρ)) := zHX.hY hX (cs_X11_lawClause hX) (zmok_all 162 (by decide))
def gl_X11_lawClause_38 {ρ : Type} (f : zH → Int32 → Int32 → Int32 → Option ρ) (σ : zH) (L st : List zAV) : Option ρ := match L, st with
  | [.inr (.inr (.inl (11, 0))), .inl x1, .inl x2, .inl x3, _], [] => f σ x1 x2 x3
  | _, _ => none
def gl_X11_lawClause_65 {ρ : Type} (f : zH → Int32 → Int32 → Int32 → Int32 → Option ρ) (σ : zH) (L st : List zAV) : Option ρ := match L, st with
  | [.inr (.inr (.inl (11, 0))), .inl x1, _, .inl x3, _], [.inl xs2, .inl xs1, .inr (.inr (.inl (11, 0)))] => f σ x1 x3 xs1 xs2
  | _, _ => none
def gl_X11_lawClause_95 {ρ : Type} (f : zH → Int32 → Int32 → Int32 → Option ρ) (σ : zH) (L st : List zAV) : Option ρ := match L, st with
  | [.inr (.inr (.inl (11, 0))), _, _, _, .inl x4], [.inl xs2, .inl xs1, .inr (.inr (.inl (74, 0)))] => f σ x4 xs1 xs2
  | _, _ => none
theorem glr_X11_lawClause_38 {ρ : Type} (f : zH → Int32 → Int32 → Int32 → Option ρ) (σ : zH) (x1 : Int32) (x2 : Int32) (x3 : Int32) (y4 : zAV) : gl_X11_lawClause_38 f σ [vR 11 0, vI x1, vI x2, vI x3, y4] [] = f σ x1 x2 x3 := rfl
theorem glr_X11_lawClause_65 {ρ : Type} (f : zH → Int32 → Int32 → Int32 → Int32 → Option ρ) (σ : zH) (x1 : Int32) (x3 : Int32) (xs1 : Int32) (xs2 : Int32) (y2 : zAV) (y4 : zAV) : gl_X11_lawClause_65 f σ [vR 11 0, vI x1, y2, vI x3, y4] [vI xs2, vI xs1, vR 11 0] = f σ x1 x3 xs1 xs2 := rfl
theorem glr_X11_lawClause_95 {ρ : Type} (f : zH → Int32 → Int32 → Int32 → Option ρ) (σ : zH) (x4 : Int32) (xs1 : Int32) (xs2 : Int32) (y1 : zAV) (y2 : zAV) (y3 : zAV) : gl_X11_lawClause_95 f σ [vR 11 0, y1, y2, y3, vI x4] [vI xs2, vI xs1, vR 74 0] = f σ x4 xs1 xs2 := rfl
theorem t_X11_lawClause_0 {G : Nat → zH → List zAV → List zAV → Option zH} (es : List zEnt) (σ : zH) (x1 : Int32) (y2 : zAV) (y3 : zAV) (y4 : zAV)  : zev cc_X11_lawClause G 9 krV (zE 0 (.aload_n 0) 1 :: es) σ [vR 11 0, vI x1, y2, y3, y4] [] = zev cc_X11_lawClause G 9 krV es σ [vR 11 0, vI x1, y2, y3, y4] [vR 11 0] := rfl
theorem t_X11_lawClause_4 {G : Nat → zH → List zAV → List zAV → Option zH} (es : List zEnt) (σ : zH) (x1 : Int32) (y2 : zAV) (y3 : zAV) (y4 : zAV)  : zev cc_X11_lawClause G 9 krV (zE 4 (.aload_n 0) 1 :: zEf 5 (.getfield 211) 3 11 31 179 (0, 0, 0) :: zE 8 (.istore_n 2) 1 :: zE 9 (.aload_n 0) 1 :: (10, (.ldc_w 335), 3, (1, 23, 0, 0), (0, 0, 0), 0, 0, []) :: es) σ [vR 11 0, vI x1, y2, y3, y4] [] = zev cc_X11_lawClause G 9 krV es σ [vR 11 0, vI x1, vI (σ.1 11 0 31), y3, y4] [vR 200 23, vR 11 0] := rfl
theorem t_X11_lawClause_16 {G : Nat → zH → List zAV → List zAV → Option zH} (es : List zEnt) (σ : zH) (x1 : Int32) (x2 : Int32) (xs0 : Int32) (y3 : zAV) (y4 : zAV)  : zev cc_X11_lawClause G 9 krV (zE 16 (.istore_n 3) 1 :: zE 17 (.iload_n 3) 1 :: es) σ [vR 11 0, vI x1, vI x2, y3, y4] [vI xs0] = zev cc_X11_lawClause G 9 krV es σ [vR 11 0, vI x1, vI x2, vI xs0, y4] [vI xs0] := rfl
theorem t_X11_lawClause_21 {G : Nat → zH → List zAV → List zAV → Option zH} (es : List zEnt) (σ : zH) (x1 : Int32) (x2 : Int32) (x3 : Int32) (y4 : zAV)  : zev cc_X11_lawClause G 9 krV (zE 21 (.aload_n 0) 1 :: (22, (.ldc_w 337), 3, (1, 24, 0, 0), (0, 0, 0), 0, 0, []) :: es) σ [vR 11 0, vI x1, vI x2, vI x3, y4] [] = zev cc_X11_lawClause G 9 krV es σ [vR 11 0, vI x1, vI x2, vI x3, y4] [vR 200 24, vR 11 0] := rfl
theorem t_X11_lawClause_31 {G : Nat → zH → List zAV → List zAV → Option zH} (es : List zEnt) (σ : zH) (x2 : Int32) (y1 : zAV) (y3 : zAV) (y4 : zAV) (w32 : Int32) : zev cc_X11_lawClause G 9 krV (zE 31 (.aload_n 0) 1 :: zEk 32 (.iconst 0) 1 w32 :: zE 33 (.iload_n 2) 1 :: es) σ [vR 11 0, y1, vI x2, y3, y4] [] = zev cc_X11_lawClause G 9 krV es σ [vR 11 0, y1, vI x2, y3, y4] [vI x2, vI w32, vR 11 0] := rfl
theorem t_X11_lawClause_38 {G : Nat → zH → List zAV → List zAV → Option zH} (es : List zEnt) (σ : zH) (x1 : Int32) (x2 : Int32) (x3 : Int32) (y4 : zAV) (w39 : Int32) : zev cc_X11_lawClause G 9 krV (zE 38 (.iload_n 1) 1 :: zEk 39 (.bipush 12) 2 w39 :: es) σ [vR 11 0, vI x1, vI x2, vI x3, y4] [] = zev cc_X11_lawClause G 9 krV es σ [vR 11 0, vI x1, vI x2, vI x3, y4] [vI w39, vI x1] := rfl
theorem t_X11_lawClause_44 {G : Nat → zH → List zAV → List zAV → Option zH} (es : List zEnt) (σ : zH) (x2 : Int32) (y1 : zAV) (y3 : zAV) (y4 : zAV) (w45 : Int32) : zev cc_X11_lawClause G 9 krV (zE 44 (.aload_n 0) 1 :: zEk 45 (.iconst 4) 1 w45 :: zE 46 (.iload_n 2) 1 :: es) σ [vR 11 0, y1, vI x2, y3, y4] [] = zev cc_X11_lawClause G 9 krV es σ [vR 11 0, y1, vI x2, y3, y4] [vI x2, vI w45, vR 11 0] := rfl
theorem t_X11_lawClause_51 {G : Nat → zH → List zAV → List zAV → Option zH} (es : List zEnt) (σ : zH) (x1 : Int32) (x3 : Int32) (y2 : zAV) (y4 : zAV)  : zev cc_X11_lawClause G 9 krV (zE 51 (.aload_n 0) 1 :: zE 52 .dup 1 :: zEf 53 (.getfield 211) 3 11 31 179 (0, 0, 0) :: zE 56 (.iload_n 3) 1 :: es) σ [vR 11 0, vI x1, y2, vI x3, y4] [] = zev cc_X11_lawClause G 9 krV es σ [vR 11 0, vI x1, y2, vI x3, y4] [vI x3, vI (σ.1 11 0 31), vR 11 0] := rfl
theorem t_X11_lawClause_60 {G : Nat → zH → List zAV → List zAV → Option zH} (es : List zEnt) (σ : zH) (x1 : Int32) (x3 : Int32) (xs1 : Int32) (y2 : zAV) (y4 : zAV) (w60 : Int32) : zev cc_X11_lawClause G 9 krV (zEk 60 (.iconst 4) 1 w60 :: es) σ [vR 11 0, vI x1, y2, vI x3, y4] [vI xs1, vR 11 0] = zev cc_X11_lawClause G 9 krV es σ [vR 11 0, vI x1, y2, vI x3, y4] [vI w60, vI xs1, vR 11 0] := rfl
theorem t_X11_lawClause_64 {G : Nat → zH → List zAV → List zAV → Option zH} (es : List zEnt) (σ : zH) (x1 : Int32) (x3 : Int32) (xs1 : Int32) (y2 : zAV) (y4 : zAV) (w64 : Int32) : zev cc_X11_lawClause G 9 krV (zEk 64 (.iconst 5) 1 w64 :: es) σ [vR 11 0, vI x1, y2, vI x3, y4] [vI xs1, vR 11 0] = zev cc_X11_lawClause G 9 krV es σ [vR 11 0, vI x1, y2, vI x3, y4] [vI w64, vI xs1, vR 11 0] := rfl
theorem t_X11_lawClause_65 {G : Nat → zH → List zAV → List zAV → Option zH} (es : List zEnt) (σ : zH) (x1 : Int32) (x3 : Int32) (xs1 : Int32) (xs2 : Int32) (y2 : zAV) (y4 : zAV)  : zev cc_X11_lawClause G 9 krV (zE 65 .iadd 1 :: es) σ [vR 11 0, vI x1, y2, vI x3, y4] [vI xs2, vI xs1, vR 11 0] = zev cc_X11_lawClause G 9 krV es σ [vR 11 0, vI x1, y2, vI x3, y4] [vI (xs1 + xs2), vR 11 0] := rfl
theorem t_X11_lawClause_69 {G : Nat → zH → List zAV → List zAV → Option zH} (es : List zEnt) (σ : zH) (x1 : Int32) (x3 : Int32) (y2 : zAV) (y4 : zAV) (w69 : Int32) : zev cc_X11_lawClause G 9 krV (zEk 69 (.bipush 12) 2 w69 :: zE 71 (.aload_n 0) 1 :: zEf 72 (.getfield 237) 3 11 33 181 (0, 0, 0) :: zE 75 .imul 1 :: zE 76 (.iload_n 1) 1 :: zE 77 .iadd 1 :: zE 78 (.istore 4) 2 :: zE 80 (.aload_n 0) 1 :: zEf 81 (.getfield 114) 3 11 45 193 (2, 74, 0) :: zE 84 (.iload 4) 2 :: zE 86 (.iload_n 3) 1 :: es) σ [vR 11 0, vI x1, y2, vI x3, y4] [] = zev cc_X11_lawClause G 9 krV es σ [vR 11 0, vI x1, y2, vI x3, vI ((w69 * (σ.1 11 0 33)) + x1)] [vI x3, vI ((w69 * (σ.1 11 0 33)) + x1), vR 74 0] := rfl
theorem t_X11_lawClause_90 {G : Nat → zH → List zAV → List zAV → Option zH} (es : List zEnt) (σ : zH) (x4 : Int32) (xs1 : Int32) (y1 : zAV) (y2 : zAV) (y3 : zAV) (w90 : Int32) : zev cc_X11_lawClause G 9 krV (zEk 90 (.iconst 1) 1 w90 :: es) σ [vR 11 0, y1, y2, y3, vI x4] [vI xs1, vR 74 0] = zev cc_X11_lawClause G 9 krV es σ [vR 11 0, y1, y2, y3, vI x4] [vI w90, vI xs1, vR 74 0] := rfl
theorem t_X11_lawClause_94 {G : Nat → zH → List zAV → List zAV → Option zH} (es : List zEnt) (σ : zH) (x4 : Int32) (xs1 : Int32) (y1 : zAV) (y2 : zAV) (y3 : zAV) (w94 : Int32) : zev cc_X11_lawClause G 9 krV (zEk 94 (.iconst 0) 1 w94 :: es) σ [vR 11 0, y1, y2, y3, vI x4] [vI xs1, vR 74 0] = zev cc_X11_lawClause G 9 krV es σ [vR 11 0, y1, y2, y3, vI x4] [vI w94, vI xs1, vR 74 0] := rfl
theorem t_X11_lawClause_96 {G : Nat → zH → List zAV → List zAV → Option zH} (es : List zEnt) (σ : zH) (x4 : Int32) (y1 : zAV) (y2 : zAV) (y3 : zAV)  : zev cc_X11_lawClause G 9 krV (zE 96 (.aload_n 0) 1 :: zEf 97 (.getfield 117) 3 11 46 194 (2, 75, 0) :: zE 100 (.iload 4) 2 :: zE 102 (.aload_n 0) 1 :: zEf 103 (.getfield 240) 3 11 35 183 (0, 0, 0) :: es) σ [vR 11 0, y1, y2, y3, vI x4] [] = zev cc_X11_lawClause G 9 krV es σ [vR 11 0, y1, y2, y3, vI x4] [vI (σ.1 11 0 35), vI x4, vR 75 0] := rfl
theorem t_X11_lawClause_107 {G : Nat → zH → List zAV → List zAV → Option zH} (es : List zEnt) (σ : zH) (x4 : Int32) (y1 : zAV) (y2 : zAV) (y3 : zAV)  : zev cc_X11_lawClause G 9 krV (zE 107 (.aload_n 0) 1 :: es) σ [vR 11 0, y1, y2, y3, vI x4] [] = zev cc_X11_lawClause G 9 krV es σ [vR 11 0, y1, y2, y3, vI x4] [vR 11 0] := rfl
theorem t_X11_lawClause_111 {G : Nat → zH → List zAV → List zAV → Option zH} (es : List zEnt) (σ : zH) (x4 : Int32) (y1 : zAV) (y2 : zAV) (y3 : zAV)  : zev cc_X11_lawClause G 9 krV (zE 111 (.aload_n 0) 1 :: zEf 112 (.getfield 120) 3 11 47 195 (2, 76, 0) :: zE 115 (.iload 4) 2 :: zE 117 (.aload_n 0) 1 :: zEf 118 (.getfield 240) 3 11 35 183 (0, 0, 0) :: es) σ [vR 11 0, y1, y2, y3, vI x4] [] = zev cc_X11_lawClause G 9 krV es σ [vR 11 0, y1, y2, y3, vI x4] [vI (σ.1 11 0 35), vI x4, vR 76 0] := rfl
noncomputable def j_X11_lawClause_95  (σ : zH) (x4 : Int32) (xs1 : Int32) (xs2 : Int32) : Option zH :=
  ix xs1 72 fun j7 =>
  zlet (uI σ 74 0 j7 xs2) fun σ1 =>
  ix x4 72 fun j6 =>
  zlet (uI σ1 75 0 j6 (σ1.1 11 0 35)) fun σ2 =>
  (d_X11_test σ2).bind fun σ3 =>
  ix x4 72 fun j5 =>
  zlet (uI σ3 76 0 j5 (σ3.1 11 0 35)) fun σ4 =>
  some σ4
theorem e_X11_lawClause_95  (σ : zH) (x4 : Int32) (xs1 : Int32) (xs2 : Int32) (y1 : zAV) (y2 : zAV) (y3 : zAV) : j_X11_lawClause_95 σ x4 xs1 xs2 = zin cc_X11_lawClause (fun t => none) 9 krV b_X11_lawClause 95 σ [vR 11 0, y1, y2, y3, vI x4] [vI xs2, vI xs1, vR 74 0] := by
  unfold j_X11_lawClause_95
  refine Eq.symm ((zin_b (es := q_X11_lawClause_95) rfl).trans ?_)
  refine (x_iast (N := 72) rfl rfl).trans (pix fun _ => plt fun _ => ?_)
  refine (t_X11_lawClause_96 _ _ _ _ _ _).trans ?_
  refine (x_iast (N := 72) rfl rfl).trans (pix fun _ => plt fun _ => ?_)
  refine (t_X11_lawClause_107 _ _ _ _ _ _).trans ?_
  refine (x_callV rfl rfl rfl rfl).trans ((cl_X11_lawClause_X11_test _ _ _).trans ((gr_X11_test _ _).trans (pbd fun _ => ?_)))
  refine (t_X11_lawClause_111 _ _ _ _ _ _).trans ?_
  refine (x_iast (N := 72) rfl rfl).trans (pix fun _ => plt fun _ => ?_)
  exact x_vret
theorem s_X11_lawClause_95 {X : zX} (hX : zHX X)   : ∀ σ L st r, gl_X11_lawClause_95 j_X11_lawClause_95 σ L st = some r → zGW X 162 krV 95 σ L st r := by
  intro σ L st r h
  unfold gl_X11_lawClause_95 at h
  split at h
  · exact zin_ok (hy_X11_lawClause hX) bk_X11_lawClause (fun t f hf => by
    cases hf) ((e_X11_lawClause_95 _ _ _ _ _ _ _).symm.trans h)
  · cases h
noncomputable def j_X11_lawClause_65  (σ : zH) (x1 : Int32) (x3 : Int32) (xs1 : Int32) (xs2 : Int32) : Option zH :=
  zlet (uI σ 11 0 31 (xs1 + xs2)) fun σ1 =>
  if x3 = 0 then
    j_X11_lawClause_95 σ1 (((12 : Int32) * (σ1.1 11 0 33)) + x1) (((12 : Int32) * (σ1.1 11 0 33)) + x1) (0 : Int32)
  else
    j_X11_lawClause_95 σ1 (((12 : Int32) * (σ1.1 11 0 33)) + x1) (((12 : Int32) * (σ1.1 11 0 33)) + x1) (1 : Int32)
theorem e_X11_lawClause_65  (σ : zH) (x1 : Int32) (x3 : Int32) (xs1 : Int32) (xs2 : Int32) (y2 : zAV) (y4 : zAV) : j_X11_lawClause_65 σ x1 x3 xs1 xs2 = zin cc_X11_lawClause (fun t => if t = 95 then some (gl_X11_lawClause_95 j_X11_lawClause_95) else none) 9 krV b_X11_lawClause 65 σ [vR 11 0, vI x1, y2, vI x3, y4] [vI xs2, vI xs1, vR 11 0] := by
  unfold j_X11_lawClause_65
  refine Eq.symm ((zin_b (es := q_X11_lawClause_65) rfl).trans ?_)
  refine (t_X11_lawClause_65 _ _ _ _ _ _ _ _).trans ?_
  refine x_pf0.trans (plt fun _ => ?_)
  refine (t_X11_lawClause_69 _ _ _ _ _ _ _).trans ?_
  refine x_if.trans (pif_eq ?_ ?_)
  · refine (zrun_b (es := q_X11_lawClause_94) rfl rfl).trans ?_
    refine (t_X11_lawClause_94 _ _ _ _ _ _ _ _).trans ?_
    refine x_cut.trans ?_
    exact (zrun_c rfl).trans (glr_X11_lawClause_95 _ _ _ _ _ _ _ _)
  · refine (t_X11_lawClause_90 _ _ _ _ _ _ _ _).trans ?_
    refine x_goto.trans ?_
    exact (zrun_c rfl).trans (glr_X11_lawClause_95 _ _ _ _ _ _ _ _)
theorem s_X11_lawClause_65 {X : zX} (hX : zHX X)   : ∀ σ L st r, gl_X11_lawClause_65 j_X11_lawClause_65 σ L st = some r → zGW X 162 krV 65 σ L st r := by
  intro σ L st r h
  unfold gl_X11_lawClause_65 at h
  split at h
  · exact zin_ok (hy_X11_lawClause hX) bk_X11_lawClause (fun t f hf => by
    by_cases e95 : t = 95
    · rw [if_pos e95] at hf; subst e95; cases hf; exact (s_X11_lawClause_95 hX)
    rw [if_neg e95] at hf
    cases hf) ((e_X11_lawClause_65 _ _ _ _ _ _ _).symm.trans h)
  · cases h
noncomputable def j_X11_lawClause_38  (σ : zH) (x1 : Int32) (x2 : Int32) (x3 : Int32) : Option zH :=
  if x1 = (12 : Int32) then
    (d_X11_fails σ (4 : Int32) x2).bind fun σ1 =>
    some σ1
  else
    if x3 = 0 then
      j_X11_lawClause_65 σ x1 x3 (σ.1 11 0 31) (5 : Int32)
    else
      j_X11_lawClause_65 σ x1 x3 (σ.1 11 0 31) (4 : Int32)
theorem e_X11_lawClause_38  (σ : zH) (x1 : Int32) (x2 : Int32) (x3 : Int32) (y4 : zAV) : j_X11_lawClause_38 σ x1 x2 x3 = zin cc_X11_lawClause (fun t => if t = 65 then some (gl_X11_lawClause_65 j_X11_lawClause_65) else none) 9 krV b_X11_lawClause 38 σ [vR 11 0, vI x1, vI x2, vI x3, y4] [] := by
  unfold j_X11_lawClause_38
  refine Eq.symm ((zin_b (es := q_X11_lawClause_38) rfl).trans ?_)
  refine (t_X11_lawClause_38 _ _ _ _ _ _ _).trans ?_
  refine x_icmp.trans (pif_ne ?_ ?_)
  · refine (zrun_b (es := q_X11_lawClause_51) rfl rfl).trans ?_
    refine (t_X11_lawClause_51 _ _ _ _ _ _).trans ?_
    refine x_if.trans (pif_eq ?_ ?_)
    · refine (zrun_b (es := q_X11_lawClause_64) rfl rfl).trans ?_
      refine (t_X11_lawClause_64 _ _ _ _ _ _ _ _).trans ?_
      refine x_cut.trans ?_
      exact (zrun_c rfl).trans (glr_X11_lawClause_65 _ _ _ _ _ _ _ _)
    · refine (t_X11_lawClause_60 _ _ _ _ _ _ _ _).trans ?_
      refine x_goto.trans ?_
      exact (zrun_c rfl).trans (glr_X11_lawClause_65 _ _ _ _ _ _ _ _)
  · refine (t_X11_lawClause_44 _ _ _ _ _ _ _).trans ?_
    refine (x_callV rfl rfl rfl rfl).trans ((cl_X11_lawClause_X11_fails _ _ _).trans ((gr_X11_fails _ _ _ _).trans (pbd fun _ => ?_)))
    exact x_vret
theorem s_X11_lawClause_38 {X : zX} (hX : zHX X)   : ∀ σ L st r, gl_X11_lawClause_38 j_X11_lawClause_38 σ L st = some r → zGW X 162 krV 38 σ L st r := by
  intro σ L st r h
  unfold gl_X11_lawClause_38 at h
  split at h
  · exact zin_ok (hy_X11_lawClause hX) bk_X11_lawClause (fun t f hf => by
    by_cases e65 : t = 65
    · rw [if_pos e65] at hf; subst e65; cases hf; exact (s_X11_lawClause_65 hX)
    rw [if_neg e65] at hf
    cases hf) ((e_X11_lawClause_38 _ _ _ _ _).symm.trans h)
  · cases h
noncomputable def d_X11_lawClause (σ : zH) (xa1 : Int32) : Option zH :=
  (d_X11_blanks σ).bind fun σ1 =>
  (d_X11_stood σ1 23).bind fun p2 =>
  if p2.2 = 0 then
    (d_X11_stood p2.1 24).bind fun p3 =>
    if p3.2 = 0 then
      (d_X11_fails p3.1 (0 : Int32) (σ1.1 11 0 31)).bind fun σ4 =>
      some σ4
    else
      j_X11_lawClause_38 p3.1 xa1 (σ1.1 11 0 31) p2.2
  else
    j_X11_lawClause_38 p2.1 xa1 (σ1.1 11 0 31) p2.2
theorem e_X11_lawClause (σ : zH) (xa1 : Int32) : d_X11_lawClause σ xa1 = zin cc_X11_lawClause (fun t => if t = 38 then some (gl_X11_lawClause_38 j_X11_lawClause_38) else none) 9 krV b_X11_lawClause 0 σ [vR 11 0, vI xa1, vU, vU, vU] [] := by
  unfold d_X11_lawClause
  refine Eq.symm ((zin_b (es := q_X11_lawClause_0) rfl).trans ?_)
  refine (t_X11_lawClause_0 _ _ _ _ _ _).trans ?_
  refine (x_callV rfl rfl rfl rfl).trans ((cl_X11_lawClause_X11_blanks _ _ _).trans ((gr_X11_blanks _ _).trans (pbd fun _ => ?_)))
  refine (t_X11_lawClause_4 _ _ _ _ _ _).trans ?_
  refine (x_callV rfl rfl rfl rfl).trans ((cl_X11_lawClause_X11_stood _ _ _).trans ((gr_X11_stood _ _ _).trans (pbd fun _ => ?_)))
  refine (t_X11_lawClause_16 _ _ _ _ _ _ _).trans ?_
  refine x_if.trans (pif_ne ?_ ?_)
  · exact (zrun_c rfl).trans (glr_X11_lawClause_38 _ _ _ _ _ _)
  · refine (t_X11_lawClause_21 _ _ _ _ _ _).trans ?_
    refine (x_callV rfl rfl rfl rfl).trans ((cl_X11_lawClause_X11_stood _ _ _).trans ((gr_X11_stood _ _ _).trans (pbd fun _ => ?_)))
    refine x_if.trans (pif_ne ?_ ?_)
    · exact (zrun_c rfl).trans (glr_X11_lawClause_38 _ _ _ _ _ _)
    · refine (t_X11_lawClause_31 _ _ _ _ _ _ _).trans ?_
      refine (x_callV rfl rfl rfl rfl).trans ((cl_X11_lawClause_X11_fails _ _ _).trans ((gr_X11_fails _ _ _ _).trans (pbd fun _ => ?_)))
      exact x_vret
noncomputable def g_X11_lawClause {ρ : Type} (σ : zH) (av : List zAV) (q : zH → zAV → Option ρ) : Option ρ := match av with
  | [.inr (.inr (.inl (11, 0))), .inl xa1] => (d_X11_lawClause σ xa1).bind fun σ => q σ vU
  | _ => none
theorem gr_X11_lawClause {ρ : Type} (σ : zH) (xa1 : Int32) (q : zH → zAV → Option ρ) : g_X11_lawClause σ [vR 11 0, vI xa1] q = (d_X11_lawClause σ xa1).bind fun σ => q σ vU := rfl
theorem c_X11_lawClause {ρ : Type} {X : zX} (hX : zHX X) {σ : zH} {av : List zAV} {q : zH → zAV → Option ρ} {r : ρ} (h : g_X11_lawClause σ av q = some r) (hv : ∀ a ∈ av, zval X a) : zcon X 162 σ av q r := by
  unfold g_X11_lawClause at h
  split at h
  · exact zcon_V (n := 162) (ml := 5) (rc := 9) (st := 0) (kd := 11) (np := 1) (by decide +kernel) rfl ⟨_, _, rfl, rfl⟩ (Nat.le_of_ble_eq_true rfl) hv h (fun y h1 => (zin_ok (hy_X11_lawClause hX) bk_X11_lawClause (fun t f hf => by
      by_cases e38 : t = 38
      · rw [if_pos e38] at hf; subst e38; cases hf; exact (s_X11_lawClause_38 hX)
      rw [if_neg e38] at hf
      cases hf) ((e_X11_lawClause _ _).symm.trans h1)))
  · cases h
/-! SleepWavesModel.law()I -/
def q_X11_law_10 : List zEnt := zE 10 .ireturn 1 :: []
def q_X11_law_9 : List zEnt := zEk 9 (.iconst (-1)) 1 (-1) :: q_X11_law_10
def q_X11_law_6 : List zEnt := zEa 6 (.if_icmp .ne 5) 3 11 :: q_X11_law_9
def q_X11_law_0 : List zEnt := zE 0 (.aload_n 0) 1 :: zEf 1 (.getfield 342) 3 11 34 182 (0, 0, 0) :: zEk 4 (.bipush 6) 2 6 :: q_X11_law_6
def q_X11_law_23 : List zEnt := zEk 23 (.iconst 0) 1 0 :: zE 24 (.istore_n 1) 1 :: zEk 25 (.iconst 1) 1 1 :: zE 26 (.istore_n 2) 1 :: [zE 27 .nop 0]
def q_X11_law_20 : List zEnt := zEc 20 (.invokevirtual 322) 3 160 1 117 1 :: q_X11_law_23
def q_X11_law_19 : List zEnt := zE 19 (.aload_n 0) 1 :: q_X11_law_20
def q_X11_law_16 : List zEnt := zEf 16 (.putfield 237) 3 11 33 181 (0, 0, 0) :: q_X11_law_19
def q_X11_law_11 : List zEnt := zE 11 (.aload_n 0) 1 :: zE 12 (.aload_n 0) 1 :: zEf 13 (.getfield 342) 3 11 34 182 (0, 0, 0) :: q_X11_law_16
def q_X11_law_44 : List zEnt := zEa 44 (.goto (-17)) 3 27 :: []
def q_X11_law_43 : List zEnt := zE 43 (.istore_n 2) 1 :: q_X11_law_44
def q_X11_law_40 : List zEnt := zEc 40 (.invokevirtual 328) 3 159 1 130 0 :: q_X11_law_43
def q_X11_law_36 : List zEnt := zEk 36 (.iinc 1 1) 3 1 :: zE 39 (.aload_n 0) 1 :: q_X11_law_40
def q_X11_law_33 : List zEnt := zEc 33 (.invokevirtual 345) 3 162 2 132 1 :: q_X11_law_36
def q_X11_law_31 : List zEnt := zE 31 (.aload_n 0) 1 :: zE 32 (.iload_n 1) 1 :: q_X11_law_33
def q_X11_law_28 : List zEnt := zEa 28 (.ifCond .eq 19) 3 47 :: q_X11_law_31
def q_X11_law_27 : List zEnt := zE 27 (.iload_n 2) 1 :: q_X11_law_28
def q_X11_law_75 : List zEnt := zEa 75 (.goto 4) 3 79 :: []
def q_X11_law_74 : List zEnt := zEk 74 (.iconst 1) 1 1 :: q_X11_law_75
def q_X11_law_71 : List zEnt := zEa 71 (.ifCond .ne 7) 3 78 :: q_X11_law_74
def q_X11_law_62 : List zEnt := zE 62 (.aload_n 0) 1 :: zE 63 .dup 1 :: zEf 64 (.getfield 342) 3 11 34 182 (0, 0, 0) :: zE 67 (.aload_n 0) 1 :: zEf 68 (.getfield 208) 3 11 32 180 (0, 0, 0) :: q_X11_law_71
def q_X11_law_61 : List zEnt := zE 61 .iastore 1 :: q_X11_law_62
def q_X11_law_52 : List zEnt := zE 52 (.aload_n 0) 1 :: zEf 53 (.getfield 111) 3 11 44 192 (2, 73, 0) :: zE 56 (.aload_n 0) 1 :: zEf 57 (.getfield 237) 3 11 33 181 (0, 0, 0) :: zE 60 (.iload_n 1) 1 :: q_X11_law_61
def q_X11_law_49 : List zEnt := zEf 49 (.putfield 181) 3 11 30 178 (0, 0, 0) :: q_X11_law_52
def q_X11_law_47 : List zEnt := zE 47 (.aload_n 0) 1 :: zEk 48 (.iconst 0) 1 0 :: q_X11_law_49
def q_X11_law_78 : List zEnt := zEk 78 (.iconst 0) 1 0 :: [zE 79 .nop 0]
def q_X11_law_97 : List zEnt := zEa 97 (.goto 9) 3 106 :: []
def q_X11_law_90 : List zEnt := zEk 90 (.bipush (-2)) 2 (-2) :: zE 92 (.aload_n 0) 1 :: zEf 93 (.getfield 208) 3 11 32 180 (0, 0, 0) :: zE 96 .isub 1 :: q_X11_law_97
def q_X11_law_87 : List zEnt := zEa 87 (.ifCond .le 13) 3 100 :: q_X11_law_90
def q_X11_law_83 : List zEnt := zE 83 (.aload_n 0) 1 :: zEf 84 (.getfield 208) 3 11 32 180 (0, 0, 0) :: q_X11_law_87
def q_X11_law_80 : List zEnt := zEf 80 (.putfield 342) 3 11 34 182 (0, 0, 0) :: q_X11_law_83
def q_X11_law_79 : List zEnt := zE 79 .iadd 1 :: q_X11_law_80
def q_X11_law_106 : List zEnt := zE 106 .ireturn 1 :: []
def q_X11_law_100 : List zEnt := zE 100 (.aload_n 0) 1 :: zEf 101 (.getfield 342) 3 11 34 182 (0, 0, 0) :: zEk 104 (.iconst 1) 1 1 :: zE 105 .isub 1 :: q_X11_law_106
def b_X11_law : List (Nat × List zEnt) := [(0, q_X11_law_0), (11, q_X11_law_11), (27, q_X11_law_27), (47, q_X11_law_47), (78, q_X11_law_78), (79, q_X11_law_79), (100, q_X11_law_100), (106, q_X11_law_106)]
theorem bk_X11_law : zchB 163 b_X11_law = true := by decide +kernel
noncomputable def cc_X11_law {ρ : Type} : Nat → zH → List zAV → (zH → zAV → Option ρ) → Option ρ := fun n σ av q => if n = 160 then g_X11_starts σ av q else if n = 162 then g_X11_lawClause σ av q else if n = 159 then g_X11_goesOn σ av q else none
theorem cs_X11_law {ρ : Type} {X : zX} (hX : zHX X) : zCS X (cc_X11_law (ρ := ρ)) := by
  intro n σ av q r h hv
  unfold cc_X11_law at h
  by_cases e_X11_starts : n = 160
  · rw [if_pos e_X11_starts] at h
    subst e_X11_starts
    exact c_X11_starts hX h hv
  rw [if_neg e_X11_starts] at h
  by_cases e_X11_lawClause : n = 162
  · rw [if_pos e_X11_lawClause] at h
    subst e_X11_lawClause
    exact c_X11_lawClause hX h hv
  rw [if_neg e_X11_lawClause] at h
  by_cases e_X11_goesOn : n = 159
  · rw [if_pos e_X11_goesOn] at h
    subst e_X11_goesOn
    exact c_X11_goesOn hX h hv
  rw [if_neg e_X11_goesOn] at h
  cases h
theorem cl_X11_law_X11_starts {ρ : Type} (σ : zH) (av : List zAV) (q : zH → zAV → Option ρ) : cc_X11_law 160 σ av q = g_X11_starts σ av q := rfl
theorem cl_X11_law_X11_lawClause {ρ : Type} (σ : zH) (av : List zAV) (q : zH → zAV → Option ρ) : cc_X11_law 162 σ av q = g_X11_lawClause σ av q := rfl
theorem cl_X11_law_X11_goesOn {ρ : Type} (σ : zH) (av : List zAV) (q : zH → zAV → Option ρ) : cc_X11_law 159 σ av q = g_X11_goesOn σ av q := rfl
theorem hy_X11_law {ρ : Type} {X : zX} (hX : zHX X) : zHY X 163 (cc_X11_law (ρ := ρ)) := zHX.hY hX (cs_X11_law hX) (zmok_all 163 (by decide))
def gl_X11_law_27 {ρ : Type} (f : zH → Int32 → Int32 → Option ρ) (σ : zH) (L st : List zAV) : Option ρ := match L, st with
  | [.inr (.inr (.inl (11, 0))), .inl x1, .inl x2], [] => f σ x1 x2
  | _, _ => none
def gl_X11_law_47 {ρ : Type} (f : zH → Int32 → Option ρ) (σ : zH) (L st : List zAV) : Option ρ := match L, st with
  | [.inr (.inr (.inl (11, 0))), .inl x1, _], [] => f σ x1
  | _, _ => none
def gl_X11_law_79 {ρ : Type} (f : zH → Int32 → Int32 → Option ρ) (σ : zH) (L st : List zAV) : Option ρ := match L, st with
  | [.inr (.inr (.inl (11, 0))), _, _], [.inl xs2, .inl xs1, .inr (.inr (.inl (11, 0)))] => f σ xs1 xs2
  | _, _ => none
theorem glr_X11_law_27 {ρ : Type} (f : zH → Int32 → Int32 → Option ρ) (σ : zH) (x1 : Int32) (x2 : Int32)  : gl_X11_law_27 f σ [vR 11 0, vI x1, vI x2] [] = f σ x1 x2 := rfl
theorem glr_X11_law_47 {ρ : Type} (f : zH → Int32 → Option ρ) (σ : zH) (x1 : Int32) (y2 : zAV) : gl_X11_law_47 f σ [vR 11 0, vI x1, y2] [] = f σ x1 := rfl
theorem glr_X11_law_79 {ρ : Type} (f : zH → Int32 → Int32 → Option ρ) (σ : zH) (xs1 : Int32) (xs2 : Int32) (y1 : zAV) (y2 : zAV) : gl_X11_law_79 f σ [vR 11 0, y1, y2] [vI xs2, vI xs1, vR 11 0] = f σ xs1 xs2 := rfl
theorem t_X11_law_0 {G : Nat → zH → List zAV → List zAV → Option (zH × Int32)} (es : List zEnt) (σ : zH)  (y1 : zAV) (y2 : zAV) (w4 : Int32) : zev cc_X11_law G 0 krI (zE 0 (.aload_n 0) 1 :: zEf 1 (.getfield 342) 3 11 34 182 (0, 0, 0) :: zEk 4 (.bipush 6) 2 w4 :: es) σ [vR 11 0, y1, y2] [] = zev cc_X11_law G 0 krI es σ [vR 11 0, y1, y2] [vI w4, vI (σ.1 11 0 34)] := rfl
theorem t_X11_law_9 {G : Nat → zH → List zAV → List zAV → Option (zH × Int32)} (es : List zEnt) (σ : zH)  (y0 : zAV) (y1 : zAV) (y2 : zAV) (w9 : Int32) : zev cc_X11_law G 0 krI (zEk 9 (.iconst (-1)) 1 w9 :: es) σ [y0, y1, y2] [] = zev cc_X11_law G 0 krI es σ [y0, y1, y2] [vI w9] := rfl
theorem t_X11_law_11 {G : Nat → zH → List zAV → List zAV → Option (zH × Int32)} (es : List zEnt) (σ : zH)  (y1 : zAV) (y2 : zAV)  : zev cc_X11_law G 0 krI (zE 11 (.aload_n 0) 1 :: zE 12 (.aload_n 0) 1 :: zEf 13 (.getfield 342) 3 11 34 182 (0, 0, 0) :: es) σ [vR 11 0, y1, y2] [] = zev cc_X11_law G 0 krI es σ [vR 11 0, y1, y2] [vI (σ.1 11 0 34), vR 11 0] := rfl
theorem t_X11_law_19 {G : Nat → zH → List zAV → List zAV → Option (zH × Int32)} (es : List zEnt) (σ : zH)  (y1 : zAV) (y2 : zAV)  : zev cc_X11_law G 0 krI (zE 19 (.aload_n 0) 1 :: es) σ [vR 11 0, y1, y2] [] = zev cc_X11_law G 0 krI es σ [vR 11 0, y1, y2] [vR 11 0] := rfl
theorem t_X11_law_23 {G : Nat → zH → List zAV → List zAV → Option (zH × Int32)} (es : List zEnt) (σ : zH)  (y1 : zAV) (y2 : zAV) (w23 : Int32) (w25 : Int32) : zev cc_X11_law G 0 krI (zEk 23 (.iconst 0) 1 w23 :: zE 24 (.istore_n 1) 1 :: zEk 25 (.iconst 1) 1 w25 :: zE 26 (.istore_n 2) 1 :: es) σ [vR 11 0, y1, y2] [] = zev cc_X11_law G 0 krI es σ [vR 11 0, vI w23, vI w25] [] := rfl
theorem t_X11_law_27 {G : Nat → zH → List zAV → List zAV → Option (zH × Int32)} (es : List zEnt) (σ : zH) (x1 : Int32) (x2 : Int32)   : zev cc_X11_law G 0 krI (zE 27 (.iload_n 2) 1 :: es) σ [vR 11 0, vI x1, vI x2] [] = zev cc_X11_law G 0 krI es σ [vR 11 0, vI x1, vI x2] [vI x2] := rfl
theorem t_X11_law_31 {G : Nat → zH → List zAV → List zAV → Option (zH × Int32)} (es : List zEnt) (σ : zH) (x1 : Int32) (y2 : zAV)  : zev cc_X11_law G 0 krI (zE 31 (.aload_n 0) 1 :: zE 32 (.iload_n 1) 1 :: es) σ [vR 11 0, vI x1, y2] [] = zev cc_X11_law G 0 krI es σ [vR 11 0, vI x1, y2] [vI x1, vR 11 0] := rfl
theorem t_X11_law_36 {G : Nat → zH → List zAV → List zAV → Option (zH × Int32)} (es : List zEnt) (σ : zH) (x1 : Int32) (y2 : zAV) (w36 : Int32) : zev cc_X11_law G 0 krI (zEk 36 (.iinc 1 1) 3 w36 :: zE 39 (.aload_n 0) 1 :: es) σ [vR 11 0, vI x1, y2] [] = zev cc_X11_law G 0 krI es σ [vR 11 0, vI (x1 + w36), y2] [vR 11 0] := rfl
theorem t_X11_law_43 {G : Nat → zH → List zAV → List zAV → Option (zH × Int32)} (es : List zEnt) (σ : zH) (x1 : Int32) (xs0 : Int32) (y2 : zAV)  : zev cc_X11_law G 0 krI (zE 43 (.istore_n 2) 1 :: es) σ [vR 11 0, vI x1, y2] [vI xs0] = zev cc_X11_law G 0 krI es σ [vR 11 0, vI x1, vI xs0] [] := rfl
theorem t_X11_law_47 {G : Nat → zH → List zAV → List zAV → Option (zH × Int32)} (es : List zEnt) (σ : zH) (x1 : Int32) (y2 : zAV) (w48 : Int32) : zev cc_X11_law G 0 krI (zE 47 (.aload_n 0) 1 :: zEk 48 (.iconst 0) 1 w48 :: es) σ [vR 11 0, vI x1, y2] [] = zev cc_X11_law G 0 krI es σ [vR 11 0, vI x1, y2] [vI w48, vR 11 0] := rfl
theorem t_X11_law_52 {G : Nat → zH → List zAV → List zAV → Option (zH × Int32)} (es : List zEnt) (σ : zH) (x1 : Int32) (y2 : zAV)  : zev cc_X11_law G 0 krI (zE 52 (.aload_n 0) 1 :: zEf 53 (.getfield 111) 3 11 44 192 (2, 73, 0) :: zE 56 (.aload_n 0) 1 :: zEf 57 (.getfield 237) 3 11 33 181 (0, 0, 0) :: zE 60 (.iload_n 1) 1 :: es) σ [vR 11 0, vI x1, y2] [] = zev cc_X11_law G 0 krI es σ [vR 11 0, vI x1, y2] [vI x1, vI (σ.1 11 0 33), vR 73 0] := rfl
theorem t_X11_law_62 {G : Nat → zH → List zAV → List zAV → Option (zH × Int32)} (es : List zEnt) (σ : zH)  (y1 : zAV) (y2 : zAV)  : zev cc_X11_law G 0 krI (zE 62 (.aload_n 0) 1 :: zE 63 .dup 1 :: zEf 64 (.getfield 342) 3 11 34 182 (0, 0, 0) :: zE 67 (.aload_n 0) 1 :: zEf 68 (.getfield 208) 3 11 32 180 (0, 0, 0) :: es) σ [vR 11 0, y1, y2] [] = zev cc_X11_law G 0 krI es σ [vR 11 0, y1, y2] [vI (σ.1 11 0 32), vI (σ.1 11 0 34), vR 11 0] := rfl
theorem t_X11_law_74 {G : Nat → zH → List zAV → List zAV → Option (zH × Int32)} (es : List zEnt) (σ : zH) (xs1 : Int32) (y1 : zAV) (y2 : zAV) (w74 : Int32) : zev cc_X11_law G 0 krI (zEk 74 (.iconst 1) 1 w74 :: es) σ [vR 11 0, y1, y2] [vI xs1, vR 11 0] = zev cc_X11_law G 0 krI es σ [vR 11 0, y1, y2] [vI w74, vI xs1, vR 11 0] := rfl
theorem t_X11_law_78 {G : Nat → zH → List zAV → List zAV → Option (zH × Int32)} (es : List zEnt) (σ : zH) (xs1 : Int32) (y1 : zAV) (y2 : zAV) (w78 : Int32) : zev cc_X11_law G 0 krI (zEk 78 (.iconst 0) 1 w78 :: es) σ [vR 11 0, y1, y2] [vI xs1, vR 11 0] = zev cc_X11_law G 0 krI es σ [vR 11 0, y1, y2] [vI w78, vI xs1, vR 11 0] := rfl
theorem t_X11_law_79 {G : Nat → zH → List zAV → List zAV → Option (zH × Int32)} (es : List zEnt) (σ : zH) (xs1 : Int32) (xs2 : Int32) (y1 : zAV) (y2 : zAV)  : zev cc_X11_law G 0 krI (zE 79 .iadd 1 :: es) σ [vR 11 0, y1, y2] [vI xs2, vI xs1, vR 11 0] = zev cc_X11_law G 0 krI es σ [vR 11 0, y1, y2] [vI (xs1 + xs2), vR 11 0] := rfl
theorem t_X11_law_83 {G : Nat → zH → List zAV → List zAV → Option (zH × Int32)} (es : List zEnt) (σ : zH)  (y1 : zAV) (y2 : zAV)  : zev cc_X11_law G 0 krI (zE 83 (.aload_n 0) 1 :: zEf 84 (.getfield 208) 3 11 32 180 (0, 0, 0) :: es) σ [vR 11 0, y1, y2] [] = zev cc_X11_law G 0 krI es σ [vR 11 0, y1, y2] [vI (σ.1 11 0 32)] := rfl
theorem t_X11_law_90 {G : Nat → zH → List zAV → List zAV → Option (zH × Int32)} (es : List zEnt) (σ : zH)  (y1 : zAV) (y2 : zAV) (w90 : Int32) : zev cc_X11_law G 0 krI (zEk 90 (.bipush (-2)) 2 w90 :: zE 92 (.aload_n 0) 1 :: zEf 93 (.getfield 208) 3 11 32 180 (0, 0, 0) :: zE 96 .isub 1 :: es) σ [vR 11 0, y1, y2] [] = zev cc_X11_law G 0 krI es σ [vR 11 0, y1, y2] [vI (w90 - (σ.1 11 0 32))] := rfl
theorem t_X11_law_100 {G : Nat → zH → List zAV → List zAV → Option (zH × Int32)} (es : List zEnt) (σ : zH)  (y1 : zAV) (y2 : zAV) (w104 : Int32) : zev cc_X11_law G 0 krI (zE 100 (.aload_n 0) 1 :: zEf 101 (.getfield 342) 3 11 34 182 (0, 0, 0) :: zEk 104 (.iconst 1) 1 w104 :: zE 105 .isub 1 :: es) σ [vR 11 0, y1, y2] [] = zev cc_X11_law G 0 krI es σ [vR 11 0, y1, y2] [vI ((σ.1 11 0 34) - w104)] := rfl
noncomputable def k_X11_law_27 (c47 : zH → Int32 → Option (zH × Int32)) : Nat → zH → Int32 → Int32 → Option (zH × Int32)
  | 0, _, _, _ => none
  | n + 1, σ, x1, x2 =>
    if x2 = 0 then
      c47 σ x1
    else
      (d_X11_lawClause σ x1).bind fun σ1 =>
      (d_X11_goesOn σ1).bind fun p2 =>
      (k_X11_law_27 c47 n) p2.1 (x1 + (1 : Int32)) p2.2
theorem e_X11_law_27 (c47 : zH → Int32 → Option (zH × Int32)) (n : Nat) (σ : zH) (x1 : Int32) (x2 : Int32)  : k_X11_law_27 c47 (n + 1) σ x1 x2 = zin cc_X11_law (fun t => if t = 27 then some (gl_X11_law_27 (k_X11_law_27 c47 n)) else if t = 47 then some (gl_X11_law_47 c47) else none) 0 krI b_X11_law 27 σ [vR 11 0, vI x1, vI x2] [] := by
  rw [k_X11_law_27]
  refine Eq.symm ((zin_b (es := q_X11_law_27) rfl).trans ?_)
  refine (t_X11_law_27 _ _ _ _).trans ?_
  refine x_if.trans (pif_eq ?_ ?_)
  · exact (zrun_c rfl).trans (glr_X11_law_47 _ _ _ _)
  · refine (t_X11_law_31 _ _ _ _).trans ?_
    refine (x_callV rfl rfl rfl rfl).trans ((cl_X11_law_X11_lawClause _ _ _).trans ((gr_X11_lawClause _ _ _).trans (pbd fun _ => ?_)))
    refine (t_X11_law_36 _ _ _ _ _).trans ?_
    refine (x_callV rfl rfl rfl rfl).trans ((cl_X11_law_X11_goesOn _ _ _).trans ((gr_X11_goesOn _ _).trans (pbd fun _ => ?_)))
    refine (t_X11_law_43 _ _ _ _ _).trans ?_
    refine x_goto.trans ?_
    exact (zrun_c rfl).trans (glr_X11_law_27 _ _ _ _)
theorem s_X11_law_27 {X : zX} (hX : zHX X) {c47 : zH → Int32 → Option (zH × Int32)} (h47 : ∀ σ L st r, gl_X11_law_47 c47 σ L st = some r → zGW X 163 krI 47 σ L st r) : ∀ n σ L st r, gl_X11_law_27 (k_X11_law_27 c47 n) σ L st = some r → zGW X 163 krI 27 σ L st r := by
  intro n
  induction n with
  | zero =>
    intro σ L st r h
    unfold gl_X11_law_27 at h
    split at h <;> cases h
  | succ n ih =>
    intro σ L st r h
    unfold gl_X11_law_27 at h
    split at h
    · exact zin_ok (hy_X11_law hX) bk_X11_law (fun t f hf => by
      by_cases e27 : t = 27
      · rw [if_pos e27] at hf; subst e27; cases hf; exact ih
      rw [if_neg e27] at hf
      by_cases e47 : t = 47
      · rw [if_pos e47] at hf; subst e47; cases hf; exact h47
      rw [if_neg e47] at hf
      cases hf) ((e_X11_law_27 _ _ _ _ _).symm.trans h)
    · cases h
noncomputable def j_X11_law_79  (σ : zH) (xs1 : Int32) (xs2 : Int32) : Option (zH × Int32) :=
  zlet (uI σ 11 0 34 (xs1 + xs2)) fun σ1 =>
  if (0 : Int32) < (σ1.1 11 0 32) then
    some (σ1, ((-2 : Int32) - (σ1.1 11 0 32)))
  else
    some (σ1, ((σ1.1 11 0 34) - (1 : Int32)))
theorem e_X11_law_79  (σ : zH) (xs1 : Int32) (xs2 : Int32) (y1 : zAV) (y2 : zAV) : j_X11_law_79 σ xs1 xs2 = zin cc_X11_law (fun t => none) 0 krI b_X11_law 79 σ [vR 11 0, y1, y2] [vI xs2, vI xs1, vR 11 0] := by
  unfold j_X11_law_79
  refine Eq.symm ((zin_b (es := q_X11_law_79) rfl).trans ?_)
  refine (t_X11_law_79 _ _ _ _ _ _).trans ?_
  refine x_pf0.trans (plt fun _ => ?_)
  refine (t_X11_law_83 _ _ _ _).trans ?_
  refine x_if.trans (pif_le ?_ ?_)
  · refine (zrun_b (es := q_X11_law_100) rfl rfl).trans ?_
    refine (t_X11_law_100 _ _ _ _ _).trans ?_
    exact x_iret
  · refine (t_X11_law_90 _ _ _ _ _).trans ?_
    refine x_goto.trans ?_
    refine (zrun_b (es := q_X11_law_106) rfl rfl).trans ?_
    exact x_iret
theorem s_X11_law_79 {X : zX} (hX : zHX X)   : ∀ σ L st r, gl_X11_law_79 j_X11_law_79 σ L st = some r → zGW X 163 krI 79 σ L st r := by
  intro σ L st r h
  unfold gl_X11_law_79 at h
  split at h
  · exact zin_ok (hy_X11_law hX) bk_X11_law (fun t f hf => by
    cases hf) ((e_X11_law_79 _ _ _ _ _).symm.trans h)
  · cases h
noncomputable def j_X11_law_47  (σ : zH) (x1 : Int32) : Option (zH × Int32) :=
  zlet (uI σ 11 0 30 (0 : Int32)) fun σ1 =>
  ix (σ1.1 11 0 33) 6 fun j3 =>
  zlet (uI σ1 73 0 j3 x1) fun σ2 =>
  if (σ2.1 11 0 32) = 0 then
    j_X11_law_79 σ2 (σ2.1 11 0 34) (1 : Int32)
  else
    j_X11_law_79 σ2 (σ2.1 11 0 34) (0 : Int32)
theorem e_X11_law_47  (σ : zH) (x1 : Int32) (y2 : zAV) : j_X11_law_47 σ x1 = zin cc_X11_law (fun t => if t = 79 then some (gl_X11_law_79 j_X11_law_79) else none) 0 krI b_X11_law 47 σ [vR 11 0, vI x1, y2] [] := by
  unfold j_X11_law_47
  refine Eq.symm ((zin_b (es := q_X11_law_47) rfl).trans ?_)
  refine (t_X11_law_47 _ _ _ _ _).trans ?_
  refine x_pf0.trans (plt fun _ => ?_)
  refine (t_X11_law_52 _ _ _ _).trans ?_
  refine (x_iast (N := 6) rfl rfl).trans (pix fun _ => plt fun _ => ?_)
  refine (t_X11_law_62 _ _ _ _).trans ?_
  refine x_if.trans (pif_ne ?_ ?_)
  · refine (zrun_b (es := q_X11_law_78) rfl rfl).trans ?_
    refine (t_X11_law_78 _ _ _ _ _ _).trans ?_
    refine x_cut.trans ?_
    exact (zrun_c rfl).trans (glr_X11_law_79 _ _ _ _ _ _)
  · refine (t_X11_law_74 _ _ _ _ _ _).trans ?_
    refine x_goto.trans ?_
    exact (zrun_c rfl).trans (glr_X11_law_79 _ _ _ _ _ _)
theorem s_X11_law_47 {X : zX} (hX : zHX X)   : ∀ σ L st r, gl_X11_law_47 j_X11_law_47 σ L st = some r → zGW X 163 krI 47 σ L st r := by
  intro σ L st r h
  unfold gl_X11_law_47 at h
  split at h
  · exact zin_ok (hy_X11_law hX) bk_X11_law (fun t f hf => by
    by_cases e79 : t = 79
    · rw [if_pos e79] at hf; subst e79; cases hf; exact (s_X11_law_79 hX)
    rw [if_neg e79] at hf
    cases hf) ((e_X11_law_47 _ _ _).symm.trans h)
  · cases h
noncomputable def d_X11_law (σ : zH)  : Option (zH × Int32) :=
  if (σ.1 11 0 34) = (6 : Int32) then
    some (σ, (-1 : Int32))
  else
    zlet (uI σ 11 0 33 (σ.1 11 0 34)) fun σ1 =>
    (d_X11_starts σ1).bind fun σ2 =>
    (k_X11_law_27 j_X11_law_47 zN) σ2 (0 : Int32) (1 : Int32)
theorem e_X11_law (σ : zH)  : d_X11_law σ = zin cc_X11_law (fun t => if t = 27 then some (gl_X11_law_27 (k_X11_law_27 j_X11_law_47 zN)) else none) 0 krI b_X11_law 0 σ [vR 11 0, vU, vU] [] := by
  unfold d_X11_law
  refine Eq.symm ((zin_b (es := q_X11_law_0) rfl).trans ?_)
  refine (t_X11_law_0 _ _ _ _ _).trans ?_
  refine x_icmp.trans (pif_ne ?_ ?_)
  · refine (zrun_b (es := q_X11_law_11) rfl rfl).trans ?_
    refine (t_X11_law_11 _ _ _ _).trans ?_
    refine x_pf0.trans (plt fun _ => ?_)
    refine (t_X11_law_19 _ _ _ _).trans ?_
    refine (x_callV rfl rfl rfl rfl).trans ((cl_X11_law_X11_starts _ _ _).trans ((gr_X11_starts _ _).trans (pbd fun _ => ?_)))
    refine (t_X11_law_23 _ _ _ _ _ _).trans ?_
    refine x_cut.trans ?_
    exact (zrun_c rfl).trans (glr_X11_law_27 _ _ _ _)
  · refine (t_X11_law_9 _ _ _ _ _ _).trans ?_
    exact x_iret
noncomputable def g_X11_law {ρ : Type} (σ : zH) (av : List zAV) (q : zH → zAV → Option ρ) : Option ρ := match av with
  | [.inr (.inr (.inl (11, 0)))] => (d_X11_law σ).bind fun p => q p.1 (vI p.2)
  | _ => none
theorem gr_X11_law {ρ : Type} (σ : zH)  (q : zH → zAV → Option ρ) : g_X11_law σ [vR 11 0] q = (d_X11_law σ).bind fun p => q p.1 (vI p.2) := rfl
theorem c_X11_law {ρ : Type} {X : zX} (hX : zHX X) {σ : zH} {av : List zAV} {q : zH → zAV → Option ρ} {r : ρ} (h : g_X11_law σ av q = some r) (hv : ∀ a ∈ av, zval X a) : zcon X 163 σ av q r := by
  unfold g_X11_law at h
  split at h
  · exact zcon_I (n := 163) (ml := 3) (rc := 0) (st := 0) (kd := 11) (np := 0) (by decide +kernel) (by decide) ⟨_, _, rfl, rfl⟩ (Nat.le_of_ble_eq_true rfl) hv h (fun y h1 => (zin_ok (hy_X11_law hX) bk_X11_law (fun t f hf => by
      by_cases e27 : t = 27
      · rw [if_pos e27] at hf; subst e27; cases hf; exact ((fun σ L st r h => s_X11_law_27 hX (s_X11_law_47 hX) zN σ L st r h))
      rw [if_neg e27] at hf
      cases hf) ((e_X11_law _).symm.trans h1)))
  · cases h
/-! SleepWavesModel.isLaw(I)Z -/
def q_X11_isLaw_13 : List zEnt := zE 13 .ireturn 1 :: []
def q_X11_isLaw_10 : List zEnt := zEc 10 (.invokestatic 173) 3 125 3 129 0 :: q_X11_isLaw_13
def q_X11_isLaw_0 : List zEnt := zE 0 (.iload_n 1) 1 :: zE 1 .i2l 1 :: (2, (.lconst 0), 1, (0, 0, 0, 0), (0, 0, 0), 0, 0, []) :: zE 3 (.aload_n 0) 1 :: zEf 4 (.getfield 342) 3 11 34 182 (0, 0, 0) :: zEk 7 (.iconst 1) 1 1 :: zE 8 .isub 1 :: zE 9 .i2l 1 :: q_X11_isLaw_10
def b_X11_isLaw : List (Nat × List zEnt) := [(0, q_X11_isLaw_0)]
theorem bk_X11_isLaw : zchB 164 b_X11_isLaw = true := by decide +kernel
noncomputable def cc_X11_isLaw {ρ : Type} : Nat → zH → List zAV → (zH → zAV → Option ρ) → Option ρ := fun n σ av q => if n = 125 then g_X11_in σ av q else none
theorem cs_X11_isLaw {ρ : Type} {X : zX} (hX : zHX X) : zCS X (cc_X11_isLaw (ρ := ρ)) := by
  intro n σ av q r h hv
  unfold cc_X11_isLaw at h
  by_cases e_X11_in : n = 125
  · rw [if_pos e_X11_in] at h
    subst e_X11_in
    exact c_X11_in hX h hv
  rw [if_neg e_X11_in] at h
  cases h
theorem cl_X11_isLaw_X11_in {ρ : Type} (σ : zH) (av : List zAV) (q : zH → zAV → Option ρ) : cc_X11_isLaw 125 σ av q = g_X11_in σ av q := rfl
theorem hy_X11_isLaw {ρ : Type} {X : zX} (hX : zHX X) : zHY X 164 (cc_X11_isLaw (ρ := ρ)) := zHX.hY hX (cs_X11_isLaw hX) (zmok_all 164 (by decide))
theorem t_X11_isLaw_0 {G : Nat → zH → List zAV → List zAV → Option (zH × Int32)} (es : List zEnt) (σ : zH) (x1 : Int32)  (w2 : Int64) (w7 : Int32) : zev cc_X11_isLaw G 1 krI (zE 0 (.iload_n 1) 1 :: zE 1 .i2l 1 :: (2, (.lconst 0), 1, (0, 0, 0, 0), (0, 0, 0), 0, w2, []) :: zE 3 (.aload_n 0) 1 :: zEf 4 (.getfield 342) 3 11 34 182 (0, 0, 0) :: zEk 7 (.iconst 1) 1 w7 :: zE 8 .isub 1 :: zE 9 .i2l 1 :: es) σ [vR 11 0, vI x1] [] = zev cc_X11_isLaw G 1 krI es σ [vR 11 0, vI x1] [vL ((σ.1 11 0 34) - w7).toInt64, vL w2, vL x1.toInt64] := rfl
noncomputable def d_X11_isLaw (σ : zH) (xa1 : Int32) : Option (zH × Int32) :=
  (d_X11_in σ xa1.toInt64 (0 : Int64) (((σ.1 11 0 34) - (1 : Int32)).toInt64)).bind fun p1 =>
  tv p1.2 <| some (p1.1, p1.2)
theorem e_X11_isLaw (σ : zH) (xa1 : Int32) : d_X11_isLaw σ xa1 = zin cc_X11_isLaw (fun t => none) 1 krI b_X11_isLaw 0 σ [vR 11 0, vI xa1] [] := by
  unfold d_X11_isLaw
  refine Eq.symm ((zin_b (es := q_X11_isLaw_0) rfl).trans ?_)
  refine (t_X11_isLaw_0 _ _ _ _ _).trans ?_
  refine (x_callS rfl rfl rfl rfl).trans ((cl_X11_isLaw_X11_in _ _ _).trans ((gr_X11_in _ _ _ _ _).trans (pbd fun _ => ?_)))
  exact x_zret
noncomputable def g_X11_isLaw {ρ : Type} (σ : zH) (av : List zAV) (q : zH → zAV → Option ρ) : Option ρ := match av with
  | [.inr (.inr (.inl (11, 0))), .inl xa1] => (d_X11_isLaw σ xa1).bind fun p => q p.1 (vI p.2)
  | _ => none
theorem gr_X11_isLaw {ρ : Type} (σ : zH) (xa1 : Int32) (q : zH → zAV → Option ρ) : g_X11_isLaw σ [vR 11 0, vI xa1] q = (d_X11_isLaw σ xa1).bind fun p => q p.1 (vI p.2) := rfl
theorem c_X11_isLaw {ρ : Type} {X : zX} (hX : zHX X) {σ : zH} {av : List zAV} {q : zH → zAV → Option ρ} {r : ρ} (h : g_X11_isLaw σ av q = some r) (hv : ∀ a ∈ av, zval X a) : zcon X 164 σ av q r := by
  unfold g_X11_isLaw at h
  split at h
  · exact zcon_I (n := 164) (ml := 2) (rc := 1) (st := 0) (kd := 11) (np := 1) (by decide +kernel) (by decide) ⟨_, _, rfl, rfl⟩ (Nat.le_of_ble_eq_true rfl) hv h (fun y h1 => (zin_ok (hy_X11_isLaw hX) bk_X11_isLaw (fun t f hf => by
      cases hf) ((e_X11_isLaw _ _).symm.trans h1)))
  · cases h
/-! SleepWavesModel.truth(Z)J -/
def q_X11_truth_5 : List zEnt := zEa 5 (.goto 4) 3 9 :: []
def q_X11_truth_4 : List zEnt := (4, (.lconst 1), 1, (0, 0, 0, 0), (0, 0, 0), 0, 1, []) :: q_X11_truth_5
def q_X11_truth_1 : List zEnt := zEa 1 (.ifCond .eq 7) 3 8 :: q_X11_truth_4
def q_X11_truth_0 : List zEnt := zE 0 (.iload_n 0) 1 :: q_X11_truth_1
def q_X11_truth_9 : List zEnt := zE 9 .lreturn 1 :: []
def q_X11_truth_8 : List zEnt := (8, (.lconst 0), 1, (0, 0, 0, 0), (0, 0, 0), 0, 0, []) :: q_X11_truth_9
def b_X11_truth : List (Nat × List zEnt) := [(0, q_X11_truth_0), (8, q_X11_truth_8), (9, q_X11_truth_9)]
theorem bk_X11_truth : zchB 165 b_X11_truth = true := by decide +kernel
theorem hy_X11_truth {ρ : Type} {X : zX} (hX : zHX X) : zHY X 165 (zc0 (ρ := ρ)) := zHX.hY hX (zc0_ok X) (zmok_all 165 (by decide))
theorem t_X11_truth_0 {G : Nat → zH → List zAV → List zAV → Option (zH × Int64)} (es : List zEnt) (σ : zH) (x0 : Int32)   : zev zc0 G 3 krL (zE 0 (.iload_n 0) 1 :: es) σ [vI x0] [] = zev zc0 G 3 krL es σ [vI x0] [vI x0] := rfl
theorem t_X11_truth_4 {G : Nat → zH → List zAV → List zAV → Option (zH × Int64)} (es : List zEnt) (σ : zH)  (y0 : zAV) (w4 : Int64) : zev zc0 G 3 krL ((4, (.lconst 1), 1, (0, 0, 0, 0), (0, 0, 0), 0, w4, []) :: es) σ [y0] [] = zev zc0 G 3 krL es σ [y0] [vL w4] := rfl
theorem t_X11_truth_8 {G : Nat → zH → List zAV → List zAV → Option (zH × Int64)} (es : List zEnt) (σ : zH)  (y0 : zAV) (w8 : Int64) : zev zc0 G 3 krL ((8, (.lconst 0), 1, (0, 0, 0, 0), (0, 0, 0), 0, w8, []) :: es) σ [y0] [] = zev zc0 G 3 krL es σ [y0] [vL w8] := rfl
noncomputable def d_X11_truth (σ : zH) (xa0 : Int32) : Option (zH × Int64) :=
  if xa0 = 0 then
    some (σ, (0 : Int64))
  else
    some (σ, (1 : Int64))
theorem e_X11_truth (σ : zH) (xa0 : Int32) : d_X11_truth σ xa0 = zin zc0 (fun t => none) 3 krL b_X11_truth 0 σ [vI xa0] [] := by
  unfold d_X11_truth
  refine Eq.symm ((zin_b (es := q_X11_truth_0) rfl).trans ?_)
  refine (t_X11_truth_0 _ _ _).trans ?_
  refine x_if.trans (pif_eq ?_ ?_)
  · refine (zrun_b (es := q_X11_truth_8) rfl rfl).trans ?_
    refine (t_X11_truth_8 _ _ _ _).trans ?_
    exact x_lret
  · refine (t_X11_truth_4 _ _ _ _).trans ?_
    refine x_goto.trans ?_
    refine (zrun_b (es := q_X11_truth_9) rfl rfl).trans ?_
    exact x_lret
noncomputable def g_X11_truth {ρ : Type} (σ : zH) (av : List zAV) (q : zH → zAV → Option ρ) : Option ρ := match av with
  | [.inl xa0] => (d_X11_truth σ xa0).bind fun p => q p.1 (vL p.2)
  | _ => none
theorem gr_X11_truth {ρ : Type} (σ : zH) (xa0 : Int32) (q : zH → zAV → Option ρ) : g_X11_truth σ [vI xa0] q = (d_X11_truth σ xa0).bind fun p => q p.1 (vL p.2) := rfl
theorem c_X11_truth {ρ : Type} {X : zX} (hX : zHX X) {σ : zH} {av : List zAV} {q : zH → zAV → Option ρ} {r : ρ} (h : g_X11_truth σ av q = some r) (hv : ∀ a ∈ av, zval X a) : zcon X 165 σ av q r := by
  unfold g_X11_truth at h
  split at h
  · exact zcon_L (n := 165) (ml := 1) (rc := 3) (st := 1) (kd := 11) (np := 1) (by decide +kernel) (by decide) rfl (Nat.le_of_ble_eq_true rfl) hv h (fun y h1 => (zin_ok (hy_X11_truth hX) bk_X11_truth (fun t f hf => by
      cases hf) ((e_X11_truth _ _).symm.trans h1)))
  · cases h
/-! SleepWavesModel.both(IJJ)J -/
def q_X11_both_1 : List zEnt := (1, (.tableswitch 190 2 15 #[71, 75, 111, 126, 141, 156, 171, 190, 186, 190, 190, 79, 83, 97]), 71, (191, 0, 0, 0), (0, 0, 0), 0, 0, [(2, 72), (3, 76), (4, 112), (5, 127), (6, 142), (7, 157), (8, 172), (9, 191), (10, 187), (11, 191), (12, 191), (13, 80), (14, 84), (15, 98)]) :: []
def q_X11_both_0 : List zEnt := zE 0 (.iload_n 0) 1 :: q_X11_both_1
def q_X11_both_75 : List zEnt := zE 75 .lreturn 1 :: []
def q_X11_both_72 : List zEnt := zE 72 (.lload_n 1) 1 :: zE 73 (.lload_n 3) 1 :: zE 74 .ladd 1 :: q_X11_both_75
def q_X11_both_79 : List zEnt := zE 79 .lreturn 1 :: []
def q_X11_both_76 : List zEnt := zE 76 (.lload_n 1) 1 :: zE 77 (.lload_n 3) 1 :: zE 78 .lsub 1 :: q_X11_both_79
def q_X11_both_83 : List zEnt := zE 83 .lreturn 1 :: []
def q_X11_both_80 : List zEnt := zE 80 (.lload_n 1) 1 :: zE 81 (.lload_n 3) 1 :: zE 82 .lmul 1 :: q_X11_both_83
def q_X11_both_91 : List zEnt := zEa 91 (.goto 6) 3 97 :: []
def q_X11_both_90 : List zEnt := (90, (.lconst 0), 1, (0, 0, 0, 0), (0, 0, 0), 0, 0, []) :: q_X11_both_91
def q_X11_both_87 : List zEnt := zEa 87 (.ifCond .ne 7) 3 94 :: q_X11_both_90
def q_X11_both_84 : List zEnt := zE 84 (.lload_n 3) 1 :: (85, (.lconst 0), 1, (0, 0, 0, 0), (0, 0, 0), 0, 0, []) :: zE 86 .lcmp 1 :: q_X11_both_87
def q_X11_both_97 : List zEnt := zE 97 .lreturn 1 :: []
def q_X11_both_96 : List zEnt := zE 96 .ldiv 1 :: q_X11_both_97
def q_X11_both_94 : List zEnt := zE 94 (.lload_n 1) 1 :: zE 95 (.lload_n 3) 1 :: q_X11_both_96
def q_X11_both_105 : List zEnt := zEa 105 (.goto 6) 3 111 :: []
def q_X11_both_104 : List zEnt := (104, (.lconst 0), 1, (0, 0, 0, 0), (0, 0, 0), 0, 0, []) :: q_X11_both_105
def q_X11_both_101 : List zEnt := zEa 101 (.ifCond .ne 7) 3 108 :: q_X11_both_104
def q_X11_both_98 : List zEnt := zE 98 (.lload_n 3) 1 :: (99, (.lconst 0), 1, (0, 0, 0, 0), (0, 0, 0), 0, 0, []) :: zE 100 .lcmp 1 :: q_X11_both_101
def q_X11_both_111 : List zEnt := zE 111 .lreturn 1 :: []
def q_X11_both_110 : List zEnt := zE 110 .lrem 1 :: q_X11_both_111
def q_X11_both_108 : List zEnt := zE 108 (.lload_n 1) 1 :: zE 109 (.lload_n 3) 1 :: q_X11_both_110
def q_X11_both_119 : List zEnt := zEa 119 (.goto 4) 3 123 :: []
def q_X11_both_118 : List zEnt := zEk 118 (.iconst 1) 1 1 :: q_X11_both_119
def q_X11_both_115 : List zEnt := zEa 115 (.ifCond .ge 7) 3 122 :: q_X11_both_118
def q_X11_both_112 : List zEnt := zE 112 (.lload_n 1) 1 :: zE 113 (.lload_n 3) 1 :: zE 114 .lcmp 1 :: q_X11_both_115
def q_X11_both_122 : List zEnt := zEk 122 (.iconst 0) 1 0 :: [zE 123 .nop 0]
def q_X11_both_126 : List zEnt := zE 126 .lreturn 1 :: []
def q_X11_both_123 : List zEnt := zEc 123 (.invokestatic 348) 3 165 1 158 0 :: q_X11_both_126
def q_X11_both_134 : List zEnt := zEa 134 (.goto 4) 3 138 :: []
def q_X11_both_133 : List zEnt := zEk 133 (.iconst 1) 1 1 :: q_X11_both_134
def q_X11_both_130 : List zEnt := zEa 130 (.ifCond .gt 7) 3 137 :: q_X11_both_133
def q_X11_both_127 : List zEnt := zE 127 (.lload_n 1) 1 :: zE 128 (.lload_n 3) 1 :: zE 129 .lcmp 1 :: q_X11_both_130
def q_X11_both_137 : List zEnt := zEk 137 (.iconst 0) 1 0 :: [zE 138 .nop 0]
def q_X11_both_141 : List zEnt := zE 141 .lreturn 1 :: []
def q_X11_both_138 : List zEnt := zEc 138 (.invokestatic 348) 3 165 1 158 0 :: q_X11_both_141
def q_X11_both_149 : List zEnt := zEa 149 (.goto 4) 3 153 :: []
def q_X11_both_148 : List zEnt := zEk 148 (.iconst 1) 1 1 :: q_X11_both_149
def q_X11_both_145 : List zEnt := zEa 145 (.ifCond .ne 7) 3 152 :: q_X11_both_148
def q_X11_both_142 : List zEnt := zE 142 (.lload_n 1) 1 :: zE 143 (.lload_n 3) 1 :: zE 144 .lcmp 1 :: q_X11_both_145
def q_X11_both_152 : List zEnt := zEk 152 (.iconst 0) 1 0 :: [zE 153 .nop 0]
def q_X11_both_156 : List zEnt := zE 156 .lreturn 1 :: []
def q_X11_both_153 : List zEnt := zEc 153 (.invokestatic 348) 3 165 1 158 0 :: q_X11_both_156
def q_X11_both_164 : List zEnt := zEa 164 (.goto 4) 3 168 :: []
def q_X11_both_163 : List zEnt := zEk 163 (.iconst 1) 1 1 :: q_X11_both_164
def q_X11_both_160 : List zEnt := zEa 160 (.ifCond .lt 7) 3 167 :: q_X11_both_163
def q_X11_both_157 : List zEnt := zE 157 (.lload_n 1) 1 :: zE 158 (.lload_n 3) 1 :: zE 159 .lcmp 1 :: q_X11_both_160
def q_X11_both_167 : List zEnt := zEk 167 (.iconst 0) 1 0 :: [zE 168 .nop 0]
def q_X11_both_171 : List zEnt := zE 171 .lreturn 1 :: []
def q_X11_both_168 : List zEnt := zEc 168 (.invokestatic 348) 3 165 1 158 0 :: q_X11_both_171
def q_X11_both_179 : List zEnt := zEa 179 (.goto 4) 3 183 :: []
def q_X11_both_178 : List zEnt := zEk 178 (.iconst 1) 1 1 :: q_X11_both_179
def q_X11_both_175 : List zEnt := zEa 175 (.ifCond .le 7) 3 182 :: q_X11_both_178
def q_X11_both_172 : List zEnt := zE 172 (.lload_n 1) 1 :: zE 173 (.lload_n 3) 1 :: zE 174 .lcmp 1 :: q_X11_both_175
def q_X11_both_182 : List zEnt := zEk 182 (.iconst 0) 1 0 :: [zE 183 .nop 0]
def q_X11_both_186 : List zEnt := zE 186 .lreturn 1 :: []
def q_X11_both_183 : List zEnt := zEc 183 (.invokestatic 348) 3 165 1 158 0 :: q_X11_both_186
def q_X11_both_190 : List zEnt := zE 190 .lreturn 1 :: []
def q_X11_both_187 : List zEnt := zE 187 (.lload_n 1) 1 :: zE 188 (.lload_n 3) 1 :: zE 189 .land 1 :: q_X11_both_190
def q_X11_both_194 : List zEnt := zE 194 .lreturn 1 :: []
def q_X11_both_191 : List zEnt := zE 191 (.lload_n 1) 1 :: zE 192 (.lload_n 3) 1 :: zE 193 .lor 1 :: q_X11_both_194
def b_X11_both : List (Nat × List zEnt) := [(0, q_X11_both_0), (72, q_X11_both_72), (76, q_X11_both_76), (80, q_X11_both_80), (84, q_X11_both_84), (94, q_X11_both_94), (97, q_X11_both_97), (98, q_X11_both_98), (108, q_X11_both_108), (111, q_X11_both_111), (112, q_X11_both_112), (122, q_X11_both_122), (123, q_X11_both_123), (127, q_X11_both_127), (137, q_X11_both_137), (138, q_X11_both_138), (142, q_X11_both_142), (152, q_X11_both_152), (153, q_X11_both_153), (157, q_X11_both_157), (167, q_X11_both_167), (168, q_X11_both_168), (172, q_X11_both_172), (182, q_X11_both_182), (183, q_X11_both_183), (187, q_X11_both_187), (191, q_X11_both_191)]
theorem bk_X11_both : zchB 166 b_X11_both = true := by decide +kernel
noncomputable def cc_X11_both {ρ : Type} : Nat → zH → List zAV → (zH → zAV → Option ρ) → Option ρ := fun n σ av q => if n = 165 then g_X11_truth σ av q else none
theorem cs_X11_both {ρ : Type} {X : zX} (hX : zHX X) : zCS X (cc_X11_both (ρ := ρ)) := by
  intro n σ av q r h hv
  unfold cc_X11_both at h
  by_cases e_X11_truth : n = 165
  · rw [if_pos e_X11_truth] at h
    subst e_X11_truth
    exact c_X11_truth hX h hv
  rw [if_neg e_X11_truth] at h
  cases h
theorem cl_X11_both_X11_truth {ρ : Type} (σ : zH) (av : List zAV) (q : zH → zAV → Option ρ) : cc_X11_both 165 σ av q = g_X11_truth σ av q := rfl
theorem hy_X11_both {ρ : Type} {X : zX} (hX : zHX X) : zHY X 166 (cc_X11_both (ρ := ρ)) := zHX.hY hX (cs_X11_both hX) (zmok_all 166 (by decide))
def gl_X11_both_123 {ρ : Type} (f : zH → Int32 → Option ρ) (σ : zH) (L st : List zAV) : Option ρ := match L, st with
  | [_, _, _, _, _], [.inl xs0] => f σ xs0
  | _, _ => none
def gl_X11_both_138 {ρ : Type} (f : zH → Int32 → Option ρ) (σ : zH) (L st : List zAV) : Option ρ := match L, st with
  | [_, _, _, _, _], [.inl xs0] => f σ xs0
  | _, _ => none
def gl_X11_both_153 {ρ : Type} (f : zH → Int32 → Option ρ) (σ : zH) (L st : List zAV) : Option ρ := match L, st with
  | [_, _, _, _, _], [.inl xs0] => f σ xs0
  | _, _ => none
def gl_X11_both_168 {ρ : Type} (f : zH → Int32 → Option ρ) (σ : zH) (L st : List zAV) : Option ρ := match L, st with
  | [_, _, _, _, _], [.inl xs0] => f σ xs0
  | _, _ => none
def gl_X11_both_183 {ρ : Type} (f : zH → Int32 → Option ρ) (σ : zH) (L st : List zAV) : Option ρ := match L, st with
  | [_, _, _, _, _], [.inl xs0] => f σ xs0
  | _, _ => none
theorem glr_X11_both_123 {ρ : Type} (f : zH → Int32 → Option ρ) (σ : zH) (xs0 : Int32) (y0 : zAV) (y1 : zAV) (y2 : zAV) (y3 : zAV) (y4 : zAV) : gl_X11_both_123 f σ [y0, y1, y2, y3, y4] [vI xs0] = f σ xs0 := rfl
theorem glr_X11_both_138 {ρ : Type} (f : zH → Int32 → Option ρ) (σ : zH) (xs0 : Int32) (y0 : zAV) (y1 : zAV) (y2 : zAV) (y3 : zAV) (y4 : zAV) : gl_X11_both_138 f σ [y0, y1, y2, y3, y4] [vI xs0] = f σ xs0 := rfl
theorem glr_X11_both_153 {ρ : Type} (f : zH → Int32 → Option ρ) (σ : zH) (xs0 : Int32) (y0 : zAV) (y1 : zAV) (y2 : zAV) (y3 : zAV) (y4 : zAV) : gl_X11_both_153 f σ [y0, y1, y2, y3, y4] [vI xs0] = f σ xs0 := rfl
theorem glr_X11_both_168 {ρ : Type} (f : zH → Int32 → Option ρ) (σ : zH) (xs0 : Int32) (y0 : zAV) (y1 : zAV) (y2 : zAV) (y3 : zAV) (y4 : zAV) : gl_X11_both_168 f σ [y0, y1, y2, y3, y4] [vI xs0] = f σ xs0 := rfl
theorem glr_X11_both_183 {ρ : Type} (f : zH → Int32 → Option ρ) (σ : zH) (xs0 : Int32) (y0 : zAV) (y1 : zAV) (y2 : zAV) (y3 : zAV) (y4 : zAV) : gl_X11_both_183 f σ [y0, y1, y2, y3, y4] [vI xs0] = f σ xs0 := rfl
theorem t_X11_both_0 {G : Nat → zH → List zAV → List zAV → Option (zH × Int64)} (es : List zEnt) (σ : zH) (x0 : Int32) (z1 : Int64) (z3 : Int64) (y2 : zAV) (y4 : zAV)  : zev cc_X11_both G 3 krL (zE 0 (.iload_n 0) 1 :: es) σ [vI x0, vL z1, y2, vL z3, y4] [] = zev cc_X11_both G 3 krL es σ [vI x0, vL z1, y2, vL z3, y4] [vI x0] := rfl
theorem t_X11_both_72 {G : Nat → zH → List zAV → List zAV → Option (zH × Int64)} (es : List zEnt) (σ : zH) (z1 : Int64) (z3 : Int64) (y0 : zAV) (y2 : zAV) (y4 : zAV)  : zev cc_X11_both G 3 krL (zE 72 (.lload_n 1) 1 :: zE 73 (.lload_n 3) 1 :: zE 74 .ladd 1 :: es) σ [y0, vL z1, y2, vL z3, y4] [] = zev cc_X11_both G 3 krL es σ [y0, vL z1, y2, vL z3, y4] [vL (z1 + z3)] := rfl
theorem t_X11_both_76 {G : Nat → zH → List zAV → List zAV → Option (zH × Int64)} (es : List zEnt) (σ : zH) (z1 : Int64) (z3 : Int64) (y0 : zAV) (y2 : zAV) (y4 : zAV)  : zev cc_X11_both G 3 krL (zE 76 (.lload_n 1) 1 :: zE 77 (.lload_n 3) 1 :: zE 78 .lsub 1 :: es) σ [y0, vL z1, y2, vL z3, y4] [] = zev cc_X11_both G 3 krL es σ [y0, vL z1, y2, vL z3, y4] [vL (z1 - z3)] := rfl
theorem t_X11_both_80 {G : Nat → zH → List zAV → List zAV → Option (zH × Int64)} (es : List zEnt) (σ : zH) (z1 : Int64) (z3 : Int64) (y0 : zAV) (y2 : zAV) (y4 : zAV)  : zev cc_X11_both G 3 krL (zE 80 (.lload_n 1) 1 :: zE 81 (.lload_n 3) 1 :: zE 82 .lmul 1 :: es) σ [y0, vL z1, y2, vL z3, y4] [] = zev cc_X11_both G 3 krL es σ [y0, vL z1, y2, vL z3, y4] [vL (z1 * z3)] := rfl
theorem t_X11_both_84 {G : Nat → zH → List zAV → List zAV → Option (zH × Int64)} (es : List zEnt) (σ : zH) (z1 : Int64) (z3 : Int64) (y0 : zAV) (y2 : zAV) (y4 : zAV) (w85 : Int64) : zev cc_X11_both G 3 krL (zE 84 (.lload_n 3) 1 :: (85, (.lconst 0), 1, (0, 0, 0, 0), (0, 0, 0), 0, w85, []) :: zE 86 .lcmp 1 :: es) σ [y0, vL z1, y2, vL z3, y4] [] = zev cc_X11_both G 3 krL es σ [y0, vL z1, y2, vL z3, y4] [vI (lg_cmp z3 w85)] := rfl
theorem t_X11_both_90 {G : Nat → zH → List zAV → List zAV → Option (zH × Int64)} (es : List zEnt) (σ : zH)  (y0 : zAV) (y1 : zAV) (y2 : zAV) (y3 : zAV) (y4 : zAV) (w90 : Int64) : zev cc_X11_both G 3 krL ((90, (.lconst 0), 1, (0, 0, 0, 0), (0, 0, 0), 0, w90, []) :: es) σ [y0, y1, y2, y3, y4] [] = zev cc_X11_both G 3 krL es σ [y0, y1, y2, y3, y4] [vL w90] := rfl
theorem t_X11_both_94 {G : Nat → zH → List zAV → List zAV → Option (zH × Int64)} (es : List zEnt) (σ : zH) (z1 : Int64) (z3 : Int64) (y0 : zAV) (y2 : zAV) (y4 : zAV)  : zev cc_X11_both G 3 krL (zE 94 (.lload_n 1) 1 :: zE 95 (.lload_n 3) 1 :: es) σ [y0, vL z1, y2, vL z3, y4] [] = zev cc_X11_both G 3 krL es σ [y0, vL z1, y2, vL z3, y4] [vL z3, vL z1] := rfl
theorem t_X11_both_98 {G : Nat → zH → List zAV → List zAV → Option (zH × Int64)} (es : List zEnt) (σ : zH) (z1 : Int64) (z3 : Int64) (y0 : zAV) (y2 : zAV) (y4 : zAV) (w99 : Int64) : zev cc_X11_both G 3 krL (zE 98 (.lload_n 3) 1 :: (99, (.lconst 0), 1, (0, 0, 0, 0), (0, 0, 0), 0, w99, []) :: zE 100 .lcmp 1 :: es) σ [y0, vL z1, y2, vL z3, y4] [] = zev cc_X11_both G 3 krL es σ [y0, vL z1, y2, vL z3, y4] [vI (lg_cmp z3 w99)] := rfl
theorem t_X11_both_104 {G : Nat → zH → List zAV → List zAV → Option (zH × Int64)} (es : List zEnt) (σ : zH)  (y0 : zAV) (y1 : zAV) (y2 : zAV) (y3 : zAV) (y4 : zAV) (w104 : Int64) : zev cc_X11_both G 3 krL ((104, (.lconst 0), 1, (0, 0, 0, 0), (0, 0, 0), 0, w104, []) :: es) σ [y0, y1, y2, y3, y4] [] = zev cc_X11_both G 3 krL es σ [y0, y1, y2, y3, y4] [vL w104] := rfl
theorem t_X11_both_108 {G : Nat → zH → List zAV → List zAV → Option (zH × Int64)} (es : List zEnt) (σ : zH) (z1 : Int64) (z3 : Int64) (y0 : zAV) (y2 : zAV) (y4 : zAV)  : zev cc_X11_both G 3 krL (zE 108 (.lload_n 1) 1 :: zE 109 (.lload_n 3) 1 :: es) σ [y0, vL z1, y2, vL z3, y4] [] = zev cc_X11_both G 3 krL es σ [y0, vL z1, y2, vL z3, y4] [vL z3, vL z1] := rfl
theorem t_X11_both_112 {G : Nat → zH → List zAV → List zAV → Option (zH × Int64)} (es : List zEnt) (σ : zH) (z1 : Int64) (z3 : Int64) (y0 : zAV) (y2 : zAV) (y4 : zAV)  : zev cc_X11_both G 3 krL (zE 112 (.lload_n 1) 1 :: zE 113 (.lload_n 3) 1 :: zE 114 .lcmp 1 :: es) σ [y0, vL z1, y2, vL z3, y4] [] = zev cc_X11_both G 3 krL es σ [y0, vL z1, y2, vL z3, y4] [vI (lg_cmp z1 z3)] := rfl
theorem t_X11_both_118 {G : Nat → zH → List zAV → List zAV → Option (zH × Int64)} (es : List zEnt) (σ : zH)  (y0 : zAV) (y1 : zAV) (y2 : zAV) (y3 : zAV) (y4 : zAV) (w118 : Int32) : zev cc_X11_both G 3 krL (zEk 118 (.iconst 1) 1 w118 :: es) σ [y0, y1, y2, y3, y4] [] = zev cc_X11_both G 3 krL es σ [y0, y1, y2, y3, y4] [vI w118] := rfl
theorem t_X11_both_122 {G : Nat → zH → List zAV → List zAV → Option (zH × Int64)} (es : List zEnt) (σ : zH)  (y0 : zAV) (y1 : zAV) (y2 : zAV) (y3 : zAV) (y4 : zAV) (w122 : Int32) : zev cc_X11_both G 3 krL (zEk 122 (.iconst 0) 1 w122 :: es) σ [y0, y1, y2, y3, y4] [] = zev cc_X11_both G 3 krL es σ [y0, y1, y2, y3, y4] [vI w122] := rfl
theorem t_X11_both_127 {G : Nat → zH → List zAV → List zAV → Option (zH × Int64)} (es : List zEnt) (σ : zH) (z1 : Int64) (z3 : Int64) (y0 : zAV) (y2 : zAV) (y4 : zAV)  : zev cc_X11_both G 3 krL (zE 127 (.lload_n 1) 1 :: zE 128 (.lload_n 3) 1 :: zE 129 .lcmp 1 :: es) σ [y0, vL z1, y2, vL z3, y4] [] = zev cc_X11_both G 3 krL es σ [y0, vL z1, y2, vL z3, y4] [vI (lg_cmp z1 z3)] := rfl
theorem t_X11_both_133 {G : Nat → zH → List zAV → List zAV → Option (zH × Int64)} (es : List zEnt) (σ : zH)  (y0 : zAV) (y1 : zAV) (y2 : zAV) (y3 : zAV) (y4 : zAV) (w133 : Int32) : zev cc_X11_both G 3 krL (zEk 133 (.iconst 1) 1 w133 :: es) σ [y0, y1, y2, y3, y4] [] = zev cc_X11_both G 3 krL es σ [y0, y1, y2, y3, y4] [vI w133] := rfl
theorem t_X11_both_137 {G : Nat → zH → List zAV → List zAV → Option (zH × Int64)} (es : List zEnt) (σ : zH)  (y0 : zAV) (y1 : zAV) (y2 : zAV) (y3 : zAV) (y4 : zAV) (w137 : Int32) : zev cc_X11_both G 3 krL (zEk 137 (.iconst 0) 1 w137 :: es) σ [y0, y1, y2, y3, y4] [] = zev cc_X11_both G 3 krL es σ [y0, y1, y2, y3, y4] [vI w137] := rfl
theorem t_X11_both_142 {G : Nat → zH → List zAV → List zAV → Option (zH × Int64)} (es : List zEnt) (σ : zH) (z1 : Int64) (z3 : Int64) (y0 : zAV) (y2 : zAV) (y4 : zAV)  : zev cc_X11_both G 3 krL (zE 142 (.lload_n 1) 1 :: zE 143 (.lload_n 3) 1 :: zE 144 .lcmp 1 :: es) σ [y0, vL z1, y2, vL z3, y4] [] = zev cc_X11_both G 3 krL es σ [y0, vL z1, y2, vL z3, y4] [vI (lg_cmp z1 z3)] := rfl
theorem t_X11_both_148 {G : Nat → zH → List zAV → List zAV → Option (zH × Int64)} (es : List zEnt) (σ : zH)  (y0 : zAV) (y1 : zAV) (y2 : zAV) (y3 : zAV) (y4 : zAV) (w148 : Int32) : zev cc_X11_both G 3 krL (zEk 148 (.iconst 1) 1 w148 :: es) σ [y0, y1, y2, y3, y4] [] = zev cc_X11_both G 3 krL es σ [y0, y1, y2, y3, y4] [vI w148] := rfl
theorem t_X11_both_152 {G : Nat → zH → List zAV → List zAV → Option (zH × Int64)} (es : List zEnt) (σ : zH)  (y0 : zAV) (y1 : zAV) (y2 : zAV) (y3 : zAV) (y4 : zAV) (w152 : Int32) : zev cc_X11_both G 3 krL (zEk 152 (.iconst 0) 1 w152 :: es) σ [y0, y1, y2, y3, y4] [] = zev cc_X11_both G 3 krL es σ [y0, y1, y2, y3, y4] [vI w152] := rfl
theorem t_X11_both_157 {G : Nat → zH → List zAV → List zAV → Option (zH × Int64)} (es : List zEnt) (σ : zH) (z1 : Int64) (z3 : Int64) (y0 : zAV) (y2 : zAV) (y4 : zAV)  : zev cc_X11_both G 3 krL (zE 157 (.lload_n 1) 1 :: zE 158 (.lload_n 3) 1 :: zE 159 .lcmp 1 :: es) σ [y0, vL z1, y2, vL z3, y4] [] = zev cc_X11_both G 3 krL es σ [y0, vL z1, y2, vL z3, y4] [vI (lg_cmp z1 z3)] := rfl
theorem t_X11_both_163 {G : Nat → zH → List zAV → List zAV → Option (zH × Int64)} (es : List zEnt) (σ : zH)  (y0 : zAV) (y1 : zAV) (y2 : zAV) (y3 : zAV) (y4 : zAV) (w163 : Int32) : zev cc_X11_both G 3 krL (zEk 163 (.iconst 1) 1 w163 :: es) σ [y0, y1, y2, y3, y4] [] = zev cc_X11_both G 3 krL es σ [y0, y1, y2, y3, y4] [vI w163] := rfl
theorem t_X11_both_167 {G : Nat → zH → List zAV → List zAV → Option (zH × Int64)} (es : List zEnt) (σ : zH)  (y0 : zAV) (y1 : zAV) (y2 : zAV) (y3 : zAV) (y4 : zAV) (w167 : Int32) : zev cc_X11_both G 3 krL (zEk 167 (.iconst 0) 1 w167 :: es) σ [y0, y1, y2, y3, y4] [] = zev cc_X11_both G 3 krL es σ [y0, y1, y2, y3, y4] [vI w167] := rfl
theorem t_X11_both_172 {G : Nat → zH → List zAV → List zAV → Option (zH × Int64)} (es : List zEnt) (σ : zH) (z1 : Int64) (z3 : Int64) (y0 : zAV) (y2 : zAV) (y4 : zAV)  : zev cc_X11_both G 3 krL (zE 172 (.lload_n 1) 1 :: zE 173 (.lload_n 3) 1 :: zE 174 .lcmp 1 :: es) σ [y0, vL z1, y2, vL z3, y4] [] = zev cc_X11_both G 3 krL es σ [y0, vL z1, y2, vL z3, y4] [vI (lg_cmp z1 z3)] := rfl
theorem t_X11_both_178 {G : Nat → zH → List zAV → List zAV → Option (zH × Int64)} (es : List zEnt) (σ : zH)  (y0 : zAV) (y1 : zAV) (y2 : zAV) (y3 : zAV) (y4 : zAV) (w178 : Int32) : zev cc_X11_both G 3 krL (zEk 178 (.iconst 1) 1 w178 :: es) σ [y0, y1, y2, y3, y4] [] = zev cc_X11_both G 3 krL es σ [y0, y1, y2, y3, y4] [vI w178] := rfl
theorem t_X11_both_182 {G : Nat → zH → List zAV → List zAV → Option (zH × Int64)} (es : List zEnt) (σ : zH)  (y0 : zAV) (y1 : zAV) (y2 : zAV) (y3 : zAV) (y4 : zAV) (w182 : Int32) : zev cc_X11_both G 3 krL (zEk 182 (.iconst 0) 1 w182 :: es) σ [y0, y1, y2, y3, y4] [] = zev cc_X11_both G 3 krL es σ [y0, y1, y2, y3, y4] [vI w182] := rfl
theorem t_X11_both_187 {G : Nat → zH → List zAV → List zAV → Option (zH × Int64)} (es : List zEnt) (σ : zH) (z1 : Int64) (z3 : Int64) (y0 : zAV) (y2 : zAV) (y4 : zAV)  : zev cc_X11_both G 3 krL (zE 187 (.lload_n 1) 1 :: zE 188 (.lload_n 3) 1 :: zE 189 .land 1 :: es) σ [y0, vL z1, y2, vL z3, y4] [] = zev cc_X11_both G 3 krL es σ [y0, vL z1, y2, vL z3, y4] [vL (z1 &&& z3)] := rfl
theorem t_X11_both_191 {G : Nat → zH → List zAV → List zAV → Option (zH × Int64)} (es : List zEnt) (σ : zH) (z1 : Int64) (z3 : Int64) (y0 : zAV) (y2 : zAV) (y4 : zAV)  : zev cc_X11_both G 3 krL (zE 191 (.lload_n 1) 1 :: zE 192 (.lload_n 3) 1 :: zE 193 .lor 1 :: es) σ [y0, vL z1, y2, vL z3, y4] [] = zev cc_X11_both G 3 krL es σ [y0, vL z1, y2, vL z3, y4] [vL (z1 ||| z3)] := rfl
noncomputable def j_X11_both_123  (σ : zH) (xs0 : Int32) : Option (zH × Int64) :=
  (d_X11_truth σ xs0).bind fun p1 =>
  some (p1.1, p1.2)
theorem e_X11_both_123  (σ : zH) (xs0 : Int32) (y0 : zAV) (y1 : zAV) (y2 : zAV) (y3 : zAV) (y4 : zAV) : j_X11_both_123 σ xs0 = zin cc_X11_both (fun t => none) 3 krL b_X11_both 123 σ [y0, y1, y2, y3, y4] [vI xs0] := by
  unfold j_X11_both_123
  refine Eq.symm ((zin_b (es := q_X11_both_123) rfl).trans ?_)
  refine (x_callS rfl rfl rfl rfl).trans ((cl_X11_both_X11_truth _ _ _).trans ((gr_X11_truth _ _ _).trans (pbd fun _ => ?_)))
  exact x_lret
theorem s_X11_both_123 {X : zX} (hX : zHX X)   : ∀ σ L st r, gl_X11_both_123 j_X11_both_123 σ L st = some r → zGW X 166 krL 123 σ L st r := by
  intro σ L st r h
  unfold gl_X11_both_123 at h
  split at h
  · exact zin_ok (hy_X11_both hX) bk_X11_both (fun t f hf => by
    cases hf) ((e_X11_both_123 _ _ _ _ _ _ _).symm.trans h)
  · cases h
noncomputable def j_X11_both_138  (σ : zH) (xs0 : Int32) : Option (zH × Int64) :=
  (d_X11_truth σ xs0).bind fun p1 =>
  some (p1.1, p1.2)
theorem e_X11_both_138  (σ : zH) (xs0 : Int32) (y0 : zAV) (y1 : zAV) (y2 : zAV) (y3 : zAV) (y4 : zAV) : j_X11_both_138 σ xs0 = zin cc_X11_both (fun t => none) 3 krL b_X11_both 138 σ [y0, y1, y2, y3, y4] [vI xs0] := by
  unfold j_X11_both_138
  refine Eq.symm ((zin_b (es := q_X11_both_138) rfl).trans ?_)
  refine (x_callS rfl rfl rfl rfl).trans ((cl_X11_both_X11_truth _ _ _).trans ((gr_X11_truth _ _ _).trans (pbd fun _ => ?_)))
  exact x_lret
theorem s_X11_both_138 {X : zX} (hX : zHX X)   : ∀ σ L st r, gl_X11_both_138 j_X11_both_138 σ L st = some r → zGW X 166 krL 138 σ L st r := by
  intro σ L st r h
  unfold gl_X11_both_138 at h
  split at h
  · exact zin_ok (hy_X11_both hX) bk_X11_both (fun t f hf => by
    cases hf) ((e_X11_both_138 _ _ _ _ _ _ _).symm.trans h)
  · cases h
noncomputable def j_X11_both_153  (σ : zH) (xs0 : Int32) : Option (zH × Int64) :=
  (d_X11_truth σ xs0).bind fun p1 =>
  some (p1.1, p1.2)
theorem e_X11_both_153  (σ : zH) (xs0 : Int32) (y0 : zAV) (y1 : zAV) (y2 : zAV) (y3 : zAV) (y4 : zAV) : j_X11_both_153 σ xs0 = zin cc_X11_both (fun t => none) 3 krL b_X11_both 153 σ [y0, y1, y2, y3, y4] [vI xs0] := by
  unfold j_X11_both_153
  refine Eq.symm ((zin_b (es := q_X11_both_153) rfl).trans ?_)
  refine (x_callS rfl rfl rfl rfl).trans ((cl_X11_both_X11_truth _ _ _).trans ((gr_X11_truth _ _ _).trans (pbd fun _ => ?_)))
  exact x_lret
theorem s_X11_both_153 {X : zX} (hX : zHX X)   : ∀ σ L st r, gl_X11_both_153 j_X11_both_153 σ L st = some r → zGW X 166 krL 153 σ L st r := by
  intro σ L st r h
  unfold gl_X11_both_153 at h
  split at h
  · exact zin_ok (hy_X11_both hX) bk_X11_both (fun t f hf => by
    cases hf) ((e_X11_both_153 _ _ _ _ _ _ _).symm.trans h)
  · cases h
noncomputable def j_X11_both_168  (σ : zH) (xs0 : Int32) : Option (zH × Int64) :=
  (d_X11_truth σ xs0).bind fun p1 =>
  some (p1.1, p1.2)
theorem e_X11_both_168  (σ : zH) (xs0 : Int32) (y0 : zAV) (y1 : zAV) (y2 : zAV) (y3 : zAV) (y4 : zAV) : j_X11_both_168 σ xs0 = zin cc_X11_both (fun t => none) 3 krL b_X11_both 168 σ [y0, y1, y2, y3, y4] [vI xs0] := by
  unfold j_X11_both_168
  refine Eq.symm ((zin_b (es := q_X11_both_168) rfl).trans ?_)
  refine (x_callS rfl rfl rfl rfl).trans ((cl_X11_both_X11_truth _ _ _).trans ((gr_X11_truth _ _ _).trans (pbd fun _ => ?_)))
  exact x_lret
theorem s_X11_both_168 {X : zX} (hX : zHX X)   : ∀ σ L st r, gl_X11_both_168 j_X11_both_168 σ L st = some r → zGW X 166 krL 168 σ L st r := by
  intro σ L st r h
  unfold gl_X11_both_168 at h
  split at h
  · exact zin_ok (hy_X11_both hX) bk_X11_both (fun t f hf => by
    cases hf) ((e_X11_both_168 _ _ _ _ _ _ _).symm.trans h)
  · cases h
noncomputable def j_X11_both_183  (σ : zH) (xs0 : Int32) : Option (zH × Int64) :=
  (d_X11_truth σ xs0).bind fun p1 =>
  some (p1.1, p1.2)
theorem e_X11_both_183  (σ : zH) (xs0 : Int32) (y0 : zAV) (y1 : zAV) (y2 : zAV) (y3 : zAV) (y4 : zAV) : j_X11_both_183 σ xs0 = zin cc_X11_both (fun t => none) 3 krL b_X11_both 183 σ [y0, y1, y2, y3, y4] [vI xs0] := by
  unfold j_X11_both_183
  refine Eq.symm ((zin_b (es := q_X11_both_183) rfl).trans ?_)
  refine (x_callS rfl rfl rfl rfl).trans ((cl_X11_both_X11_truth _ _ _).trans ((gr_X11_truth _ _ _).trans (pbd fun _ => ?_)))
  exact x_lret
theorem s_X11_both_183 {X : zX} (hX : zHX X)   : ∀ σ L st r, gl_X11_both_183 j_X11_both_183 σ L st = some r → zGW X 166 krL 183 σ L st r := by
  intro σ L st r h
  unfold gl_X11_both_183 at h
  split at h
  · exact zin_ok (hy_X11_both hX) bk_X11_both (fun t f hf => by
    cases hf) ((e_X11_both_183 _ _ _ _ _ _ _).symm.trans h)
  · cases h
noncomputable def d_X11_both (σ : zH) (xa0 : Int32) (za1 : Int64) (za2 : Int64) : Option (zH × Int64) :=
  if xa0 = (2 : Int32) then
    some (σ, (za1 + za2))
  else if xa0 = (3 : Int32) then
    some (σ, (za1 - za2))
  else if xa0 = (4 : Int32) then
    if (lg_cmp za1 za2) < 0 then
      j_X11_both_123 σ (1 : Int32)
    else
      j_X11_both_123 σ (0 : Int32)
  else if xa0 = (5 : Int32) then
    if (0 : Int32) < (lg_cmp za1 za2) then
      j_X11_both_138 σ (0 : Int32)
    else
      j_X11_both_138 σ (1 : Int32)
  else if xa0 = (6 : Int32) then
    if (lg_cmp za1 za2) = 0 then
      j_X11_both_153 σ (1 : Int32)
    else
      j_X11_both_153 σ (0 : Int32)
  else if xa0 = (7 : Int32) then
    if (lg_cmp za1 za2) < 0 then
      j_X11_both_168 σ (0 : Int32)
    else
      j_X11_both_168 σ (1 : Int32)
  else if xa0 = (8 : Int32) then
    if (0 : Int32) < (lg_cmp za1 za2) then
      j_X11_both_183 σ (1 : Int32)
    else
      j_X11_both_183 σ (0 : Int32)
  else if xa0 = (9 : Int32) then
    some (σ, (za1 ||| za2))
  else if xa0 = (10 : Int32) then
    some (σ, (za1 &&& za2))
  else if xa0 = (11 : Int32) then
    some (σ, (za1 ||| za2))
  else if xa0 = (12 : Int32) then
    some (σ, (za1 ||| za2))
  else if xa0 = (13 : Int32) then
    some (σ, (za1 * za2))
  else if xa0 = (14 : Int32) then
    if (lg_cmp za2 (0 : Int64)) = 0 then
      some (σ, (0 : Int64))
    else
      nzL za2 <| some (σ, (za1 / za2))
  else if xa0 = (15 : Int32) then
    if (lg_cmp za2 (0 : Int64)) = 0 then
      some (σ, (0 : Int64))
    else
      nzL za2 <| some (σ, (za1 - za1 / za2 * za2))
  else 
    some (σ, (za1 ||| za2))
theorem e_X11_both (σ : zH) (xa0 : Int32) (za1 : Int64) (za2 : Int64) : d_X11_both σ xa0 za1 za2 = zin cc_X11_both (fun t => if t = 123 then some (gl_X11_both_123 j_X11_both_123) else if t = 138 then some (gl_X11_both_138 j_X11_both_138) else if t = 153 then some (gl_X11_both_153 j_X11_both_153) else if t = 168 then some (gl_X11_both_168 j_X11_both_168) else if t = 183 then some (gl_X11_both_183 j_X11_both_183) else none) 3 krL b_X11_both 0 σ [vI xa0, vL za1, vU, vL za2, vU] [] := by
  unfold d_X11_both
  refine Eq.symm ((zin_b (es := q_X11_both_0) rfl).trans ?_)
  refine (t_X11_both_0 _ _ _ _ _ _ _).trans ?_
  refine x_tsw.trans ?_
  refine zsw_c ?_ ?_
  · refine (zrun_b (es := q_X11_both_72) rfl rfl).trans ?_
    refine (t_X11_both_72 _ _ _ _ _ _ _).trans ?_
    exact x_lret
  refine zsw_c ?_ ?_
  · refine (zrun_b (es := q_X11_both_76) rfl rfl).trans ?_
    refine (t_X11_both_76 _ _ _ _ _ _ _).trans ?_
    exact x_lret
  refine zsw_c ?_ ?_
  · refine (zrun_b (es := q_X11_both_112) rfl rfl).trans ?_
    refine (t_X11_both_112 _ _ _ _ _ _ _).trans ?_
    refine x_if.trans (pif_ge ?_ ?_)
    · refine (zrun_b (es := q_X11_both_122) rfl rfl).trans ?_
      refine (t_X11_both_122 _ _ _ _ _ _ _ _).trans ?_
      refine x_cut.trans ?_
      exact (zrun_c rfl).trans (glr_X11_both_123 _ _ _ _ _ _ _ _)
    · refine (t_X11_both_118 _ _ _ _ _ _ _ _).trans ?_
      refine x_goto.trans ?_
      exact (zrun_c rfl).trans (glr_X11_both_123 _ _ _ _ _ _ _ _)
  refine zsw_c ?_ ?_
  · refine (zrun_b (es := q_X11_both_127) rfl rfl).trans ?_
    refine (t_X11_both_127 _ _ _ _ _ _ _).trans ?_
    refine x_if.trans (pif_gt ?_ ?_)
    · refine (zrun_b (es := q_X11_both_137) rfl rfl).trans ?_
      refine (t_X11_both_137 _ _ _ _ _ _ _ _).trans ?_
      refine x_cut.trans ?_
      exact (zrun_c rfl).trans (glr_X11_both_138 _ _ _ _ _ _ _ _)
    · refine (t_X11_both_133 _ _ _ _ _ _ _ _).trans ?_
      refine x_goto.trans ?_
      exact (zrun_c rfl).trans (glr_X11_both_138 _ _ _ _ _ _ _ _)
  refine zsw_c ?_ ?_
  · refine (zrun_b (es := q_X11_both_142) rfl rfl).trans ?_
    refine (t_X11_both_142 _ _ _ _ _ _ _).trans ?_
    refine x_if.trans (pif_ne ?_ ?_)
    · refine (zrun_b (es := q_X11_both_152) rfl rfl).trans ?_
      refine (t_X11_both_152 _ _ _ _ _ _ _ _).trans ?_
      refine x_cut.trans ?_
      exact (zrun_c rfl).trans (glr_X11_both_153 _ _ _ _ _ _ _ _)
    · refine (t_X11_both_148 _ _ _ _ _ _ _ _).trans ?_
      refine x_goto.trans ?_
      exact (zrun_c rfl).trans (glr_X11_both_153 _ _ _ _ _ _ _ _)
  refine zsw_c ?_ ?_
  · refine (zrun_b (es := q_X11_both_157) rfl rfl).trans ?_
    refine (t_X11_both_157 _ _ _ _ _ _ _).trans ?_
    refine x_if.trans (pif_lt ?_ ?_)
    · refine (zrun_b (es := q_X11_both_167) rfl rfl).trans ?_
      refine (t_X11_both_167 _ _ _ _ _ _ _ _).trans ?_
      refine x_cut.trans ?_
      exact (zrun_c rfl).trans (glr_X11_both_168 _ _ _ _ _ _ _ _)
    · refine (t_X11_both_163 _ _ _ _ _ _ _ _).trans ?_
      refine x_goto.trans ?_
      exact (zrun_c rfl).trans (glr_X11_both_168 _ _ _ _ _ _ _ _)
  refine zsw_c ?_ ?_
  · refine (zrun_b (es := q_X11_both_172) rfl rfl).trans ?_
    refine (t_X11_both_172 _ _ _ _ _ _ _).trans ?_
    refine x_if.trans (pif_le ?_ ?_)
    · refine (zrun_b (es := q_X11_both_182) rfl rfl).trans ?_
      refine (t_X11_both_182 _ _ _ _ _ _ _ _).trans ?_
      refine x_cut.trans ?_
      exact (zrun_c rfl).trans (glr_X11_both_183 _ _ _ _ _ _ _ _)
    · refine (t_X11_both_178 _ _ _ _ _ _ _ _).trans ?_
      refine x_goto.trans ?_
      exact (zrun_c rfl).trans (glr_X11_both_183 _ _ _ _ _ _ _ _)
  refine zsw_c ?_ ?_
  · refine (zrun_b (es := q_X11_both_191) rfl rfl).trans ?_
    refine (t_X11_both_191 _ _ _ _ _ _ _).trans ?_
    exact x_lret
  refine zsw_c ?_ ?_
  · refine (zrun_b (es := q_X11_both_187) rfl rfl).trans ?_
    refine (t_X11_both_187 _ _ _ _ _ _ _).trans ?_
    exact x_lret
  refine zsw_c ?_ ?_
  · refine (zrun_b (es := q_X11_both_191) rfl rfl).trans ?_
    refine (t_X11_both_191 _ _ _ _ _ _ _).trans ?_
    exact x_lret
  refine zsw_c ?_ ?_
  · refine (zrun_b (es := q_X11_both_191) rfl rfl).trans ?_
    refine (t_X11_both_191 _ _ _ _ _ _ _).trans ?_
    exact x_lret
  refine zsw_c ?_ ?_
  · refine (zrun_b (es := q_X11_both_80) rfl rfl).trans ?_
    refine (t_X11_both_80 _ _ _ _ _ _ _).trans ?_
    exact x_lret
  refine zsw_c ?_ ?_
  · refine (zrun_b (es := q_X11_both_84) rfl rfl).trans ?_
    refine (t_X11_both_84 _ _ _ _ _ _ _ _).trans ?_
    refine x_if.trans (pif_ne ?_ ?_)
    · refine (zrun_b (es := q_X11_both_94) rfl rfl).trans ?_
      refine (t_X11_both_94 _ _ _ _ _ _ _).trans ?_
      refine x_ldiv.trans (pnl ?_)
      exact x_lret
    · refine (t_X11_both_90 _ _ _ _ _ _ _ _).trans ?_
      refine x_goto.trans ?_
      refine (zrun_b (es := q_X11_both_97) rfl rfl).trans ?_
      exact x_lret
  refine zsw_c ?_ ?_
  · refine (zrun_b (es := q_X11_both_98) rfl rfl).trans ?_
    refine (t_X11_both_98 _ _ _ _ _ _ _ _).trans ?_
    refine x_if.trans (pif_ne ?_ ?_)
    · refine (zrun_b (es := q_X11_both_108) rfl rfl).trans ?_
      refine (t_X11_both_108 _ _ _ _ _ _ _).trans ?_
      refine x_lrem.trans (pnl ?_)
      exact x_lret
    · refine (t_X11_both_104 _ _ _ _ _ _ _ _).trans ?_
      refine x_goto.trans ?_
      refine (zrun_b (es := q_X11_both_111) rfl rfl).trans ?_
      exact x_lret
  refine zsw_n ?_
  refine (zrun_b (es := q_X11_both_191) rfl rfl).trans ?_
  refine (t_X11_both_191 _ _ _ _ _ _ _).trans ?_
  exact x_lret
noncomputable def g_X11_both {ρ : Type} (σ : zH) (av : List zAV) (q : zH → zAV → Option ρ) : Option ρ := match av with
  | [.inl xa0, .inr (.inl za1), .inr (.inl za2)] => (d_X11_both σ xa0 za1 za2).bind fun p => q p.1 (vL p.2)
  | _ => none
theorem gr_X11_both {ρ : Type} (σ : zH) (xa0 : Int32) (za1 : Int64) (za2 : Int64) (q : zH → zAV → Option ρ) : g_X11_both σ [vI xa0, vL za1, vL za2] q = (d_X11_both σ xa0 za1 za2).bind fun p => q p.1 (vL p.2) := rfl
theorem c_X11_both {ρ : Type} {X : zX} (hX : zHX X) {σ : zH} {av : List zAV} {q : zH → zAV → Option ρ} {r : ρ} (h : g_X11_both σ av q = some r) (hv : ∀ a ∈ av, zval X a) : zcon X 166 σ av q r := by
  unfold g_X11_both at h
  split at h
  · exact zcon_L (n := 166) (ml := 5) (rc := 3) (st := 1) (kd := 11) (np := 3) (by decide +kernel) (by decide) rfl (Nat.le_of_ble_eq_true rfl) hv h (fun y h1 => (zin_ok (hy_X11_both hX) bk_X11_both (fun t f hf => by
      by_cases e123 : t = 123
      · rw [if_pos e123] at hf; subst e123; cases hf; exact (s_X11_both_123 hX)
      rw [if_neg e123] at hf
      by_cases e138 : t = 138
      · rw [if_pos e138] at hf; subst e138; cases hf; exact (s_X11_both_138 hX)
      rw [if_neg e138] at hf
      by_cases e153 : t = 153
      · rw [if_pos e153] at hf; subst e153; cases hf; exact (s_X11_both_153 hX)
      rw [if_neg e153] at hf
      by_cases e168 : t = 168
      · rw [if_pos e168] at hf; subst e168; cases hf; exact (s_X11_both_168 hX)
      rw [if_neg e168] at hf
      by_cases e183 : t = 183
      · rw [if_pos e183] at hf; subst e183; cases hf; exact (s_X11_both_183 hX)
      rw [if_neg e183] at hf
      cases hf) ((e_X11_both _ _ _ _).symm.trans h1)))
  · cases h
/-! SleepWavesModel.answer(III)J -/
def q_X11_answer_0 : List zEnt := zEk 0 (.iconst 0) 1 0 :: zE 1 (.istore 4) 2 :: zE 3 (.iload_n 2) 1 :: zE 4 (.istore 5) 2 :: [zE 6 .nop 0]
def q_X11_answer_50 : List zEnt := zEa 50 (.if_icmp .ne 34) 3 84 :: [zE 53 .nop 0]
def q_X11_answer_47 : List zEnt := zE 47 (.iload 6) 2 :: zEk 49 (.iconst 1) 1 1 :: q_X11_answer_50
def q_X11_answer_44 : List zEnt := zEa 44 (.ifCond .eq 9) 3 53 :: q_X11_answer_47
def q_X11_answer_40 : List zEnt := zE 40 (.istore 7) 2 :: zE 42 (.iload 6) 2 :: q_X11_answer_44
def q_X11_answer_39 : List zEnt := zE 39 .iaload 1 :: q_X11_answer_40
def q_X11_answer_25 : List zEnt := zE 25 (.istore 6) 2 :: zE 27 (.aload_n 0) 1 :: zEf 28 (.getfield 108) 3 11 43 191 (2, 72, 0) :: zEk 31 (.sipush 300) 3 300 :: zE 34 (.iload_n 1) 1 :: zE 35 .imul 1 :: zE 36 (.iload 5) 2 :: zE 38 .iadd 1 :: q_X11_answer_39
def q_X11_answer_24 : List zEnt := zE 24 .iaload 1 :: q_X11_answer_25
def q_X11_answer_12 : List zEnt := zE 12 (.aload_n 0) 1 :: zEf 13 (.getfield 105) 3 11 42 190 (2, 71, 0) :: zEk 16 (.sipush 300) 3 300 :: zE 19 (.iload_n 1) 1 :: zE 20 .imul 1 :: zE 21 (.iload 5) 2 :: zE 23 .iadd 1 :: q_X11_answer_24
def q_X11_answer_9 : List zEnt := zEa 9 (.if_icmp .ge 144) 3 153 :: q_X11_answer_12
def q_X11_answer_6 : List zEnt := zE 6 (.iload 5) 2 :: zE 8 (.iload_n 3) 1 :: q_X11_answer_9
def q_X11_answer_67 : List zEnt := zEa 67 (.goto 10) 3 77 :: []
def q_X11_answer_64 : List zEnt := zE 64 (.iload 7) 2 :: zE 66 .i2l 1 :: q_X11_answer_67
def q_X11_answer_61 : List zEnt := zEa 61 (.ifCond .ne 9) 3 70 :: q_X11_answer_64
def q_X11_answer_53 : List zEnt := zE 53 (.aload_n 0) 1 :: zEf 54 (.getfield 130) 3 11 50 198 (2, 79, 0) :: zE 57 (.iload 4) 2 :: zE 59 (.iload 6) 2 :: q_X11_answer_61
def q_X11_answer_76 : List zEnt := zE 76 .laload 1 :: [zE 77 .nop 0]
def q_X11_answer_70 : List zEnt := zE 70 (.aload_n 0) 1 :: zEf 71 (.getfield 126) 3 11 49 197 (2, 78, 0) :: zE 74 (.iload 7) 2 :: q_X11_answer_76
def q_X11_answer_81 : List zEnt := zEa 81 (.goto 66) 3 147 :: []
def q_X11_answer_78 : List zEnt := zEk 78 (.iinc 4 1) 3 1 :: q_X11_answer_81
def q_X11_answer_77 : List zEnt := zE 77 .lastore 1 :: q_X11_answer_78
def q_X11_answer_111 : List zEnt := zEa 111 (.goto 36) 3 147 :: []
def q_X11_answer_110 : List zEnt := zE 110 .lastore 1 :: q_X11_answer_111
def q_X11_answer_109 : List zEnt := zE 109 .lsub 1 :: q_X11_answer_110
def q_X11_answer_108 : List zEnt := zE 108 .laload 1 :: q_X11_answer_109
def q_X11_answer_91 : List zEnt := zE 91 (.aload_n 0) 1 :: zEf 92 (.getfield 130) 3 11 50 198 (2, 79, 0) :: zE 95 (.iload 4) 2 :: zEk 97 (.iconst 1) 1 1 :: zE 98 .isub 1 :: (99, (.lconst 1), 1, (0, 0, 0, 0), (0, 0, 0), 0, 1, []) :: zE 100 (.aload_n 0) 1 :: zEf 101 (.getfield 130) 3 11 50 198 (2, 79, 0) :: zE 104 (.iload 4) 2 :: zEk 106 (.iconst 1) 1 1 :: zE 107 .isub 1 :: q_X11_answer_108
def q_X11_answer_88 : List zEnt := zEa 88 (.if_icmp .ne 26) 3 114 :: q_X11_answer_91
def q_X11_answer_84 : List zEnt := zE 84 (.iload 6) 2 :: zEk 86 (.bipush 9) 2 9 :: q_X11_answer_88
def q_X11_answer_150 : List zEnt := zEa 150 (.goto (-144)) 3 6 :: []
def q_X11_answer_147 : List zEnt := zEk 147 (.iinc 5 1) 3 1 :: q_X11_answer_150
def q_X11_answer_146 : List zEnt := zE 146 .lastore 1 :: q_X11_answer_147
def q_X11_answer_143 : List zEnt := zEc 143 (.invokestatic 352) 3 166 3 157 0 :: q_X11_answer_146
def q_X11_answer_142 : List zEnt := zE 142 .laload 1 :: q_X11_answer_143
def q_X11_answer_136 : List zEnt := zE 136 (.aload_n 0) 1 :: zEf 137 (.getfield 130) 3 11 50 198 (2, 79, 0) :: zE 140 (.iload 4) 2 :: q_X11_answer_142
def q_X11_answer_135 : List zEnt := zE 135 .laload 1 :: q_X11_answer_136
def q_X11_answer_114 : List zEnt := zEk 114 (.iinc 4 (-1)) 3 (-1) :: zE 117 (.aload_n 0) 1 :: zEf 118 (.getfield 130) 3 11 50 198 (2, 79, 0) :: zE 121 (.iload 4) 2 :: zEk 123 (.iconst 1) 1 1 :: zE 124 .isub 1 :: zE 125 (.iload 6) 2 :: zE 127 (.aload_n 0) 1 :: zEf 128 (.getfield 130) 3 11 50 198 (2, 79, 0) :: zE 131 (.iload 4) 2 :: zEk 133 (.iconst 1) 1 1 :: zE 134 .isub 1 :: q_X11_answer_135
def q_X11_answer_159 : List zEnt := zE 159 .lreturn 1 :: []
def q_X11_answer_158 : List zEnt := zE 158 .laload 1 :: q_X11_answer_159
def q_X11_answer_153 : List zEnt := zE 153 (.aload_n 0) 1 :: zEf 154 (.getfield 130) 3 11 50 198 (2, 79, 0) :: zEk 157 (.iconst 0) 1 0 :: q_X11_answer_158
def b_X11_answer : List (Nat × List zEnt) := [(0, q_X11_answer_0), (6, q_X11_answer_6), (53, q_X11_answer_53), (70, q_X11_answer_70), (77, q_X11_answer_77), (84, q_X11_answer_84), (114, q_X11_answer_114), (147, q_X11_answer_147), (153, q_X11_answer_153)]
theorem bk_X11_answer : zchB 167 b_X11_answer = true := by decide +kernel
noncomputable def cc_X11_answer {ρ : Type} : Nat → zH → List zAV → (zH → zAV → Option ρ) → Option ρ := fun n σ av q => if n = 166 then g_X11_both σ av q else none
theorem cs_X11_answer {ρ : Type} {X : zX} (hX : zHX X) : zCS X (cc_X11_answer (ρ := ρ)) := by
  intro n σ av q r h hv
  unfold cc_X11_answer at h
  by_cases e_X11_both : n = 166
  · rw [if_pos e_X11_both] at h
    subst e_X11_both
    exact c_X11_both hX h hv
  rw [if_neg e_X11_both] at h
  cases h
theorem cl_X11_answer_X11_both {ρ : Type} (σ : zH) (av : List zAV) (q : zH → zAV → Option ρ) : cc_X11_answer 166 σ av q = g_X11_both σ av q := rfl
theorem hy_X11_answer {ρ : Type} {X : zX} (hX : zHX X) : zHY X 167 (cc_X11_answer (ρ := ρ)) := zHX.hY hX (cs_X11_answer hX) (zmok_all 167 (by decide))
def gl_X11_answer_6 {ρ : Type} (f : zH → Int32 → Int32 → Int32 → Int32 → Option ρ) (σ : zH) (L st : List zAV) : Option ρ := match L, st with
  | [.inr (.inr (.inl (11, 0))), .inl x1, _, .inl x3, .inl x4, .inl x5, _, _], [] => f σ x1 x3 x4 x5
  | _, _ => none
def gl_X11_answer_53 {ρ : Type} (f : zH → Int32 → Int32 → Int32 → Int32 → Int32 → Int32 → Option ρ) (σ : zH) (L st : List zAV) : Option ρ := match L, st with
  | [.inr (.inr (.inl (11, 0))), .inl x1, _, .inl x3, .inl x4, .inl x5, .inl x6, .inl x7], [] => f σ x1 x3 x4 x5 x6 x7
  | _, _ => none
def gl_X11_answer_77 {ρ : Type} (f : zH → Int32 → Int32 → Int32 → Int32 → Int32 → Int64 → Option ρ) (σ : zH) (L st : List zAV) : Option ρ := match L, st with
  | [.inr (.inr (.inl (11, 0))), .inl x1, _, .inl x3, .inl x4, .inl x5, _, _], [.inr (.inl zs2), .inl xs1, .inr (.inr (.inl (79, 0)))] => f σ x1 x3 x4 x5 xs1 zs2
  | _, _ => none
theorem glr_X11_answer_6 {ρ : Type} (f : zH → Int32 → Int32 → Int32 → Int32 → Option ρ) (σ : zH) (x1 : Int32) (x3 : Int32) (x4 : Int32) (x5 : Int32) (y2 : zAV) (y6 : zAV) (y7 : zAV) : gl_X11_answer_6 f σ [vR 11 0, vI x1, y2, vI x3, vI x4, vI x5, y6, y7] [] = f σ x1 x3 x4 x5 := rfl
theorem glr_X11_answer_53 {ρ : Type} (f : zH → Int32 → Int32 → Int32 → Int32 → Int32 → Int32 → Option ρ) (σ : zH) (x1 : Int32) (x3 : Int32) (x4 : Int32) (x5 : Int32) (x6 : Int32) (x7 : Int32) (y2 : zAV) : gl_X11_answer_53 f σ [vR 11 0, vI x1, y2, vI x3, vI x4, vI x5, vI x6, vI x7] [] = f σ x1 x3 x4 x5 x6 x7 := rfl
theorem glr_X11_answer_77 {ρ : Type} (f : zH → Int32 → Int32 → Int32 → Int32 → Int32 → Int64 → Option ρ) (σ : zH) (x1 : Int32) (x3 : Int32) (x4 : Int32) (x5 : Int32) (xs1 : Int32) (zs2 : Int64) (y2 : zAV) (y6 : zAV) (y7 : zAV) : gl_X11_answer_77 f σ [vR 11 0, vI x1, y2, vI x3, vI x4, vI x5, y6, y7] [vL zs2, vI xs1, vR 79 0] = f σ x1 x3 x4 x5 xs1 zs2 := rfl
theorem t_X11_answer_0 {G : Nat → zH → List zAV → List zAV → Option (zH × Int64)} (es : List zEnt) (σ : zH) (x1 : Int32) (x2 : Int32) (x3 : Int32) (y4 : zAV) (y5 : zAV) (y6 : zAV) (y7 : zAV) (w0 : Int32) : zev cc_X11_answer G 3 krL (zEk 0 (.iconst 0) 1 w0 :: zE 1 (.istore 4) 2 :: zE 3 (.iload_n 2) 1 :: zE 4 (.istore 5) 2 :: es) σ [vR 11 0, vI x1, vI x2, vI x3, y4, y5, y6, y7] [] = zev cc_X11_answer G 3 krL es σ [vR 11 0, vI x1, vI x2, vI x3, vI w0, vI x2, y6, y7] [] := rfl
theorem t_X11_answer_6 {G : Nat → zH → List zAV → List zAV → Option (zH × Int64)} (es : List zEnt) (σ : zH) (x1 : Int32) (x3 : Int32) (x4 : Int32) (x5 : Int32) (y2 : zAV) (y6 : zAV) (y7 : zAV)  : zev cc_X11_answer G 3 krL (zE 6 (.iload 5) 2 :: zE 8 (.iload_n 3) 1 :: es) σ [vR 11 0, vI x1, y2, vI x3, vI x4, vI x5, y6, y7] [] = zev cc_X11_answer G 3 krL es σ [vR 11 0, vI x1, y2, vI x3, vI x4, vI x5, y6, y7] [vI x3, vI x5] := rfl
theorem t_X11_answer_12 {G : Nat → zH → List zAV → List zAV → Option (zH × Int64)} (es : List zEnt) (σ : zH) (x1 : Int32) (x3 : Int32) (x4 : Int32) (x5 : Int32) (y2 : zAV) (y6 : zAV) (y7 : zAV) (w16 : Int32) : zev cc_X11_answer G 3 krL (zE 12 (.aload_n 0) 1 :: zEf 13 (.getfield 105) 3 11 42 190 (2, 71, 0) :: zEk 16 (.sipush 300) 3 w16 :: zE 19 (.iload_n 1) 1 :: zE 20 .imul 1 :: zE 21 (.iload 5) 2 :: zE 23 .iadd 1 :: es) σ [vR 11 0, vI x1, y2, vI x3, vI x4, vI x5, y6, y7] [] = zev cc_X11_answer G 3 krL es σ [vR 11 0, vI x1, y2, vI x3, vI x4, vI x5, y6, y7] [vI ((w16 * x1) + x5), vR 71 0] := rfl
theorem t_X11_answer_25 {G : Nat → zH → List zAV → List zAV → Option (zH × Int64)} (es : List zEnt) (σ : zH) (x1 : Int32) (x3 : Int32) (x4 : Int32) (x5 : Int32) (xs0 : Int32) (y2 : zAV) (y6 : zAV) (y7 : zAV) (w31 : Int32) : zev cc_X11_answer G 3 krL (zE 25 (.istore 6) 2 :: zE 27 (.aload_n 0) 1 :: zEf 28 (.getfield 108) 3 11 43 191 (2, 72, 0) :: zEk 31 (.sipush 300) 3 w31 :: zE 34 (.iload_n 1) 1 :: zE 35 .imul 1 :: zE 36 (.iload 5) 2 :: zE 38 .iadd 1 :: es) σ [vR 11 0, vI x1, y2, vI x3, vI x4, vI x5, y6, y7] [vI xs0] = zev cc_X11_answer G 3 krL es σ [vR 11 0, vI x1, y2, vI x3, vI x4, vI x5, vI xs0, y7] [vI ((w31 * x1) + x5), vR 72 0] := rfl
theorem t_X11_answer_40 {G : Nat → zH → List zAV → List zAV → Option (zH × Int64)} (es : List zEnt) (σ : zH) (x1 : Int32) (x3 : Int32) (x4 : Int32) (x5 : Int32) (x6 : Int32) (xs0 : Int32) (y2 : zAV) (y7 : zAV)  : zev cc_X11_answer G 3 krL (zE 40 (.istore 7) 2 :: zE 42 (.iload 6) 2 :: es) σ [vR 11 0, vI x1, y2, vI x3, vI x4, vI x5, vI x6, y7] [vI xs0] = zev cc_X11_answer G 3 krL es σ [vR 11 0, vI x1, y2, vI x3, vI x4, vI x5, vI x6, vI xs0] [vI x6] := rfl
theorem t_X11_answer_47 {G : Nat → zH → List zAV → List zAV → Option (zH × Int64)} (es : List zEnt) (σ : zH) (x1 : Int32) (x3 : Int32) (x4 : Int32) (x5 : Int32) (x6 : Int32) (x7 : Int32) (y2 : zAV) (w49 : Int32) : zev cc_X11_answer G 3 krL (zE 47 (.iload 6) 2 :: zEk 49 (.iconst 1) 1 w49 :: es) σ [vR 11 0, vI x1, y2, vI x3, vI x4, vI x5, vI x6, vI x7] [] = zev cc_X11_answer G 3 krL es σ [vR 11 0, vI x1, y2, vI x3, vI x4, vI x5, vI x6, vI x7] [vI w49, vI x6] := rfl
theorem t_X11_answer_53 {G : Nat → zH → List zAV → List zAV → Option (zH × Int64)} (es : List zEnt) (σ : zH) (x1 : Int32) (x3 : Int32) (x4 : Int32) (x5 : Int32) (x6 : Int32) (x7 : Int32) (y2 : zAV)  : zev cc_X11_answer G 3 krL (zE 53 (.aload_n 0) 1 :: zEf 54 (.getfield 130) 3 11 50 198 (2, 79, 0) :: zE 57 (.iload 4) 2 :: zE 59 (.iload 6) 2 :: es) σ [vR 11 0, vI x1, y2, vI x3, vI x4, vI x5, vI x6, vI x7] [] = zev cc_X11_answer G 3 krL es σ [vR 11 0, vI x1, y2, vI x3, vI x4, vI x5, vI x6, vI x7] [vI x6, vI x4, vR 79 0] := rfl
theorem t_X11_answer_64 {G : Nat → zH → List zAV → List zAV → Option (zH × Int64)} (es : List zEnt) (σ : zH) (x1 : Int32) (x3 : Int32) (x4 : Int32) (x5 : Int32) (x7 : Int32) (xs1 : Int32) (y2 : zAV) (y6 : zAV)  : zev cc_X11_answer G 3 krL (zE 64 (.iload 7) 2 :: zE 66 .i2l 1 :: es) σ [vR 11 0, vI x1, y2, vI x3, vI x4, vI x5, y6, vI x7] [vI xs1, vR 79 0] = zev cc_X11_answer G 3 krL es σ [vR 11 0, vI x1, y2, vI x3, vI x4, vI x5, y6, vI x7] [vL x7.toInt64, vI xs1, vR 79 0] := rfl
theorem t_X11_answer_70 {G : Nat → zH → List zAV → List zAV → Option (zH × Int64)} (es : List zEnt) (σ : zH) (x1 : Int32) (x3 : Int32) (x4 : Int32) (x5 : Int32) (x7 : Int32) (xs1 : Int32) (y2 : zAV) (y6 : zAV)  : zev cc_X11_answer G 3 krL (zE 70 (.aload_n 0) 1 :: zEf 71 (.getfield 126) 3 11 49 197 (2, 78, 0) :: zE 74 (.iload 7) 2 :: es) σ [vR 11 0, vI x1, y2, vI x3, vI x4, vI x5, y6, vI x7] [vI xs1, vR 79 0] = zev cc_X11_answer G 3 krL es σ [vR 11 0, vI x1, y2, vI x3, vI x4, vI x5, y6, vI x7] [vI x7, vR 78 0, vI xs1, vR 79 0] := rfl
theorem t_X11_answer_78 {G : Nat → zH → List zAV → List zAV → Option (zH × Int64)} (es : List zEnt) (σ : zH) (x1 : Int32) (x3 : Int32) (x4 : Int32) (x5 : Int32) (y2 : zAV) (y6 : zAV) (y7 : zAV) (w78 : Int32) : zev cc_X11_answer G 3 krL (zEk 78 (.iinc 4 1) 3 w78 :: es) σ [vR 11 0, vI x1, y2, vI x3, vI x4, vI x5, y6, y7] [] = zev cc_X11_answer G 3 krL es σ [vR 11 0, vI x1, y2, vI x3, vI (x4 + w78), vI x5, y6, y7] [] := rfl
theorem t_X11_answer_84 {G : Nat → zH → List zAV → List zAV → Option (zH × Int64)} (es : List zEnt) (σ : zH) (x1 : Int32) (x3 : Int32) (x4 : Int32) (x5 : Int32) (x6 : Int32) (y2 : zAV) (y7 : zAV) (w86 : Int32) : zev cc_X11_answer G 3 krL (zE 84 (.iload 6) 2 :: zEk 86 (.bipush 9) 2 w86 :: es) σ [vR 11 0, vI x1, y2, vI x3, vI x4, vI x5, vI x6, y7] [] = zev cc_X11_answer G 3 krL es σ [vR 11 0, vI x1, y2, vI x3, vI x4, vI x5, vI x6, y7] [vI w86, vI x6] := rfl
theorem t_X11_answer_91 {G : Nat → zH → List zAV → List zAV → Option (zH × Int64)} (es : List zEnt) (σ : zH) (x1 : Int32) (x3 : Int32) (x4 : Int32) (x5 : Int32) (y2 : zAV) (y6 : zAV) (y7 : zAV) (w97 : Int32) (w99 : Int64) (w106 : Int32) : zev cc_X11_answer G 3 krL (zE 91 (.aload_n 0) 1 :: zEf 92 (.getfield 130) 3 11 50 198 (2, 79, 0) :: zE 95 (.iload 4) 2 :: zEk 97 (.iconst 1) 1 w97 :: zE 98 .isub 1 :: (99, (.lconst 1), 1, (0, 0, 0, 0), (0, 0, 0), 0, w99, []) :: zE 100 (.aload_n 0) 1 :: zEf 101 (.getfield 130) 3 11 50 198 (2, 79, 0) :: zE 104 (.iload 4) 2 :: zEk 106 (.iconst 1) 1 w106 :: zE 107 .isub 1 :: es) σ [vR 11 0, vI x1, y2, vI x3, vI x4, vI x5, y6, y7] [] = zev cc_X11_answer G 3 krL es σ [vR 11 0, vI x1, y2, vI x3, vI x4, vI x5, y6, y7] [vI (x4 - w106), vR 79 0, vL w99, vI (x4 - w97), vR 79 0] := rfl
theorem t_X11_answer_109 {G : Nat → zH → List zAV → List zAV → Option (zH × Int64)} (es : List zEnt) (σ : zH) (x1 : Int32) (x3 : Int32) (x4 : Int32) (x5 : Int32) (xs1 : Int32) (zs2 : Int64) (zs3 : Int64) (y2 : zAV) (y6 : zAV) (y7 : zAV)  : zev cc_X11_answer G 3 krL (zE 109 .lsub 1 :: es) σ [vR 11 0, vI x1, y2, vI x3, vI x4, vI x5, y6, y7] [vL zs3, vL zs2, vI xs1, vR 79 0] = zev cc_X11_answer G 3 krL es σ [vR 11 0, vI x1, y2, vI x3, vI x4, vI x5, y6, y7] [vL (zs2 - zs3), vI xs1, vR 79 0] := rfl
theorem t_X11_answer_114 {G : Nat → zH → List zAV → List zAV → Option (zH × Int64)} (es : List zEnt) (σ : zH) (x1 : Int32) (x3 : Int32) (x4 : Int32) (x5 : Int32) (x6 : Int32) (y2 : zAV) (y7 : zAV) (w114 : Int32) (w123 : Int32) (w133 : Int32) : zev cc_X11_answer G 3 krL (zEk 114 (.iinc 4 (-1)) 3 w114 :: zE 117 (.aload_n 0) 1 :: zEf 118 (.getfield 130) 3 11 50 198 (2, 79, 0) :: zE 121 (.iload 4) 2 :: zEk 123 (.iconst 1) 1 w123 :: zE 124 .isub 1 :: zE 125 (.iload 6) 2 :: zE 127 (.aload_n 0) 1 :: zEf 128 (.getfield 130) 3 11 50 198 (2, 79, 0) :: zE 131 (.iload 4) 2 :: zEk 133 (.iconst 1) 1 w133 :: zE 134 .isub 1 :: es) σ [vR 11 0, vI x1, y2, vI x3, vI x4, vI x5, vI x6, y7] [] = zev cc_X11_answer G 3 krL es σ [vR 11 0, vI x1, y2, vI x3, vI (x4 + w114), vI x5, vI x6, y7] [vI ((x4 + w114) - w133), vR 79 0, vI x6, vI ((x4 + w114) - w123), vR 79 0] := rfl
theorem t_X11_answer_136 {G : Nat → zH → List zAV → List zAV → Option (zH × Int64)} (es : List zEnt) (σ : zH) (x1 : Int32) (x3 : Int32) (x4 : Int32) (x5 : Int32) (xs1 : Int32) (xs2 : Int32) (zs3 : Int64) (y2 : zAV) (y6 : zAV) (y7 : zAV)  : zev cc_X11_answer G 3 krL (zE 136 (.aload_n 0) 1 :: zEf 137 (.getfield 130) 3 11 50 198 (2, 79, 0) :: zE 140 (.iload 4) 2 :: es) σ [vR 11 0, vI x1, y2, vI x3, vI x4, vI x5, y6, y7] [vL zs3, vI xs2, vI xs1, vR 79 0] = zev cc_X11_answer G 3 krL es σ [vR 11 0, vI x1, y2, vI x3, vI x4, vI x5, y6, y7] [vI x4, vR 79 0, vL zs3, vI xs2, vI xs1, vR 79 0] := rfl
theorem t_X11_answer_147 {G : Nat → zH → List zAV → List zAV → Option (zH × Int64)} (es : List zEnt) (σ : zH) (x1 : Int32) (x3 : Int32) (x4 : Int32) (x5 : Int32) (y2 : zAV) (y6 : zAV) (y7 : zAV) (w147 : Int32) : zev cc_X11_answer G 3 krL (zEk 147 (.iinc 5 1) 3 w147 :: es) σ [vR 11 0, vI x1, y2, vI x3, vI x4, vI x5, y6, y7] [] = zev cc_X11_answer G 3 krL es σ [vR 11 0, vI x1, y2, vI x3, vI x4, vI (x5 + w147), y6, y7] [] := rfl
theorem t_X11_answer_153 {G : Nat → zH → List zAV → List zAV → Option (zH × Int64)} (es : List zEnt) (σ : zH)  (y1 : zAV) (y2 : zAV) (y3 : zAV) (y4 : zAV) (y5 : zAV) (y6 : zAV) (y7 : zAV) (w157 : Int32) : zev cc_X11_answer G 3 krL (zE 153 (.aload_n 0) 1 :: zEf 154 (.getfield 130) 3 11 50 198 (2, 79, 0) :: zEk 157 (.iconst 0) 1 w157 :: es) σ [vR 11 0, y1, y2, y3, y4, y5, y6, y7] [] = zev cc_X11_answer G 3 krL es σ [vR 11 0, y1, y2, y3, y4, y5, y6, y7] [vI w157, vR 79 0] := rfl
noncomputable def j_X11_answer_77 (c6 : zH → Int32 → Int32 → Int32 → Int32 → Option (zH × Int64)) (σ : zH) (x1 : Int32) (x3 : Int32) (x4 : Int32) (x5 : Int32) (xs1 : Int32) (zs2 : Int64) : Option (zH × Int64) :=
  ix xs1 300 fun j2 =>
  zlet (uL σ 79 0 j2 zs2) fun σ1 =>
  c6 σ1 x1 x3 (x4 + (1 : Int32)) (x5 + (1 : Int32))
theorem e_X11_answer_77 (c6 : zH → Int32 → Int32 → Int32 → Int32 → Option (zH × Int64)) (σ : zH) (x1 : Int32) (x3 : Int32) (x4 : Int32) (x5 : Int32) (xs1 : Int32) (zs2 : Int64) (y2 : zAV) (y6 : zAV) (y7 : zAV) : j_X11_answer_77 c6 σ x1 x3 x4 x5 xs1 zs2 = zin cc_X11_answer (fun t => if t = 6 then some (gl_X11_answer_6 c6) else none) 3 krL b_X11_answer 77 σ [vR 11 0, vI x1, y2, vI x3, vI x4, vI x5, y6, y7] [vL zs2, vI xs1, vR 79 0] := by
  unfold j_X11_answer_77
  refine Eq.symm ((zin_b (es := q_X11_answer_77) rfl).trans ?_)
  refine (x_last (N := 300) rfl rfl).trans (pix fun _ => plt fun _ => ?_)
  refine (t_X11_answer_78 _ _ _ _ _ _ _ _ _ _).trans ?_
  refine x_goto.trans ?_
  refine (zrun_b (es := q_X11_answer_147) rfl rfl).trans ?_
  refine (t_X11_answer_147 _ _ _ _ _ _ _ _ _ _).trans ?_
  refine x_goto.trans ?_
  exact (zrun_c rfl).trans (glr_X11_answer_6 _ _ _ _ _ _ _ _ _)
theorem s_X11_answer_77 {X : zX} (hX : zHX X) {c6 : zH → Int32 → Int32 → Int32 → Int32 → Option (zH × Int64)} (h6 : ∀ σ L st r, gl_X11_answer_6 c6 σ L st = some r → zGW X 167 krL 6 σ L st r) : ∀ σ L st r, gl_X11_answer_77 (j_X11_answer_77 c6) σ L st = some r → zGW X 167 krL 77 σ L st r := by
  intro σ L st r h
  unfold gl_X11_answer_77 at h
  split at h
  · exact zin_ok (hy_X11_answer hX) bk_X11_answer (fun t f hf => by
    by_cases e6 : t = 6
    · rw [if_pos e6] at hf; subst e6; cases hf; exact h6
    rw [if_neg e6] at hf
    cases hf) ((e_X11_answer_77 _ _ _ _ _ _ _ _ _ _ _).symm.trans h)
  · cases h
noncomputable def j_X11_answer_53 (c6 : zH → Int32 → Int32 → Int32 → Int32 → Option (zH × Int64)) (σ : zH) (x1 : Int32) (x3 : Int32) (x4 : Int32) (x5 : Int32) (x6 : Int32) (x7 : Int32) : Option (zH × Int64) :=
  if x6 = 0 then
    (j_X11_answer_77 c6) σ x1 x3 x4 x5 x4 x7.toInt64
  else
    ix x7 10 fun j1 =>
    (j_X11_answer_77 c6) σ x1 x3 x4 x5 x4 (σ.2 78 0 j1)
theorem e_X11_answer_53 (c6 : zH → Int32 → Int32 → Int32 → Int32 → Option (zH × Int64)) (σ : zH) (x1 : Int32) (x3 : Int32) (x4 : Int32) (x5 : Int32) (x6 : Int32) (x7 : Int32) (y2 : zAV) : j_X11_answer_53 c6 σ x1 x3 x4 x5 x6 x7 = zin cc_X11_answer (fun t => if t = 77 then some (gl_X11_answer_77 (j_X11_answer_77 c6)) else none) 3 krL b_X11_answer 53 σ [vR 11 0, vI x1, y2, vI x3, vI x4, vI x5, vI x6, vI x7] [] := by
  unfold j_X11_answer_53
  refine Eq.symm ((zin_b (es := q_X11_answer_53) rfl).trans ?_)
  refine (t_X11_answer_53 _ _ _ _ _ _ _ _ _).trans ?_
  refine x_if.trans (pif_ne ?_ ?_)
  · refine (zrun_b (es := q_X11_answer_70) rfl rfl).trans ?_
    refine (t_X11_answer_70 _ _ _ _ _ _ _ _ _ _).trans ?_
    refine (x_lald (N := 10) rfl rfl).trans (pix fun _ => ?_)
    refine x_cut.trans ?_
    exact (zrun_c rfl).trans (glr_X11_answer_77 _ _ _ _ _ _ _ _ _ _ _)
  · refine (t_X11_answer_64 _ _ _ _ _ _ _ _ _ _).trans ?_
    refine x_goto.trans ?_
    exact (zrun_c rfl).trans (glr_X11_answer_77 _ _ _ _ _ _ _ _ _ _ _)
theorem s_X11_answer_53 {X : zX} (hX : zHX X) {c6 : zH → Int32 → Int32 → Int32 → Int32 → Option (zH × Int64)} (h6 : ∀ σ L st r, gl_X11_answer_6 c6 σ L st = some r → zGW X 167 krL 6 σ L st r) : ∀ σ L st r, gl_X11_answer_53 (j_X11_answer_53 c6) σ L st = some r → zGW X 167 krL 53 σ L st r := by
  intro σ L st r h
  unfold gl_X11_answer_53 at h
  split at h
  · exact zin_ok (hy_X11_answer hX) bk_X11_answer (fun t f hf => by
    by_cases e77 : t = 77
    · rw [if_pos e77] at hf; subst e77; cases hf; exact (s_X11_answer_77 hX h6)
    rw [if_neg e77] at hf
    cases hf) ((e_X11_answer_53 _ _ _ _ _ _ _ _ _).symm.trans h)
  · cases h
noncomputable def k_X11_answer_6  : Nat → zH → Int32 → Int32 → Int32 → Int32 → Option (zH × Int64)
  | 0, _, _, _, _, _ => none
  | n + 1, σ, x1, x3, x4, x5 =>
    if x5 < x3 then
      ix (((300 : Int32) * x1) + x5) 1800 fun j1 =>
      ix (((300 : Int32) * x1) + x5) 1800 fun j2 =>
      if (σ.1 71 0 j1) = 0 then
        (j_X11_answer_53 (k_X11_answer_6 n)) σ x1 x3 x4 x5 (σ.1 71 0 j1) (σ.1 72 0 j2)
      else
        if (σ.1 71 0 j1) = (1 : Int32) then
          (j_X11_answer_53 (k_X11_answer_6 n)) σ x1 x3 x4 x5 (σ.1 71 0 j1) (σ.1 72 0 j2)
        else
          if (σ.1 71 0 j1) = (9 : Int32) then
            ix (x4 - (1 : Int32)) 300 fun j8 =>
            ix (x4 - (1 : Int32)) 300 fun j10 =>
            zlet (uL σ 79 0 j10 ((1 : Int64) - (σ.2 79 0 j8))) fun σ9 =>
            (k_X11_answer_6 n) σ9 x1 x3 x4 (x5 + (1 : Int32))
          else
            ix ((x4 + (-1 : Int32)) - (1 : Int32)) 300 fun j3 =>
            ix (x4 + (-1 : Int32)) 300 fun j4 =>
            (d_X11_both σ (σ.1 71 0 j1) (σ.2 79 0 j3) (σ.2 79 0 j4)).bind fun p5 =>
            ix ((x4 + (-1 : Int32)) - (1 : Int32)) 300 fun j7 =>
            zlet (uL p5.1 79 0 j7 p5.2) fun σ6 =>
            (k_X11_answer_6 n) σ6 x1 x3 (x4 + (-1 : Int32)) (x5 + (1 : Int32))
    else
      some (σ, (σ.2 79 0 0))
theorem e_X11_answer_6  (n : Nat) (σ : zH) (x1 : Int32) (x3 : Int32) (x4 : Int32) (x5 : Int32) (y2 : zAV) (y6 : zAV) (y7 : zAV) : k_X11_answer_6 (n + 1) σ x1 x3 x4 x5 = zin cc_X11_answer (fun t => if t = 6 then some (gl_X11_answer_6 (k_X11_answer_6 n)) else if t = 53 then some (gl_X11_answer_53 (j_X11_answer_53 (k_X11_answer_6 n))) else none) 3 krL b_X11_answer 6 σ [vR 11 0, vI x1, y2, vI x3, vI x4, vI x5, y6, y7] [] := by
  rw [k_X11_answer_6]
  refine Eq.symm ((zin_b (es := q_X11_answer_6) rfl).trans ?_)
  refine (t_X11_answer_6 _ _ _ _ _ _ _ _ _).trans ?_
  refine x_icmp.trans (pif_ge ?_ ?_)
  · refine (zrun_b (es := q_X11_answer_153) rfl rfl).trans ?_
    refine (t_X11_answer_153 _ _ _ _ _ _ _ _ _ _).trans ?_
    refine ((x_lald (N := 300) rfl rfl).trans (ix_l 0 (by decide +kernel))).trans ?_
    exact x_lret
  · refine (t_X11_answer_12 _ _ _ _ _ _ _ _ _ _).trans ?_
    refine (x_iald (N := 1800) rfl rfl).trans (pix fun _ => ?_)
    refine (t_X11_answer_25 _ _ _ _ _ _ _ _ _ _ _).trans ?_
    refine (x_iald (N := 1800) rfl rfl).trans (pix fun _ => ?_)
    refine (t_X11_answer_40 _ _ _ _ _ _ _ _ _ _).trans ?_
    refine x_if.trans (pif_eq ?_ ?_)
    · exact (zrun_c rfl).trans (glr_X11_answer_53 _ _ _ _ _ _ _ _ _)
    · refine (t_X11_answer_47 _ _ _ _ _ _ _ _ _ _).trans ?_
      refine x_icmp.trans (pif_ne ?_ ?_)
      · refine (zrun_b (es := q_X11_answer_84) rfl rfl).trans ?_
        refine (t_X11_answer_84 _ _ _ _ _ _ _ _ _ _).trans ?_
        refine x_icmp.trans (pif_ne ?_ ?_)
        · refine (zrun_b (es := q_X11_answer_114) rfl rfl).trans ?_
          refine (t_X11_answer_114 _ _ _ _ _ _ _ _ _ _ _ _).trans ?_
          refine (x_lald (N := 300) rfl rfl).trans (pix fun _ => ?_)
          refine (t_X11_answer_136 _ _ _ _ _ _ _ _ _ _ _ _).trans ?_
          refine (x_lald (N := 300) rfl rfl).trans (pix fun _ => ?_)
          refine (x_callS rfl rfl rfl rfl).trans ((cl_X11_answer_X11_both _ _ _).trans ((gr_X11_both _ _ _ _ _).trans (pbd fun _ => ?_)))
          refine (x_last (N := 300) rfl rfl).trans (pix fun _ => plt fun _ => ?_)
          refine (t_X11_answer_147 _ _ _ _ _ _ _ _ _ _).trans ?_
          refine x_goto.trans ?_
          exact (zrun_c rfl).trans (glr_X11_answer_6 _ _ _ _ _ _ _ _ _)
        · refine (t_X11_answer_91 _ _ _ _ _ _ _ _ _ _ _ _).trans ?_
          refine (x_lald (N := 300) rfl rfl).trans (pix fun _ => ?_)
          refine (t_X11_answer_109 _ _ _ _ _ _ _ _ _ _ _ _).trans ?_
          refine (x_last (N := 300) rfl rfl).trans (pix fun _ => plt fun _ => ?_)
          refine x_goto.trans ?_
          refine (zrun_b (es := q_X11_answer_147) rfl rfl).trans ?_
          refine (t_X11_answer_147 _ _ _ _ _ _ _ _ _ _).trans ?_
          refine x_goto.trans ?_
          exact (zrun_c rfl).trans (glr_X11_answer_6 _ _ _ _ _ _ _ _ _)
      · refine x_cut.trans ?_
        exact (zrun_c rfl).trans (glr_X11_answer_53 _ _ _ _ _ _ _ _ _)
theorem s_X11_answer_6 {X : zX} (hX : zHX X)   : ∀ n σ L st r, gl_X11_answer_6 (k_X11_answer_6 n) σ L st = some r → zGW X 167 krL 6 σ L st r := by
  intro n
  induction n with
  | zero =>
    intro σ L st r h
    unfold gl_X11_answer_6 at h
    split at h <;> cases h
  | succ n ih =>
    intro σ L st r h
    unfold gl_X11_answer_6 at h
    split at h
    · exact zin_ok (hy_X11_answer hX) bk_X11_answer (fun t f hf => by
      by_cases e6 : t = 6
      · rw [if_pos e6] at hf; subst e6; cases hf; exact ih
      rw [if_neg e6] at hf
      by_cases e53 : t = 53
      · rw [if_pos e53] at hf; subst e53; cases hf; exact (s_X11_answer_53 hX ih)
      rw [if_neg e53] at hf
      cases hf) ((e_X11_answer_6 _ _ _ _ _ _ _ _ _).symm.trans h)
    · cases h
noncomputable def d_X11_answer (σ : zH) (xa1 : Int32) (xa2 : Int32) (xa3 : Int32) : Option (zH × Int64) :=
  (k_X11_answer_6 zN) σ xa1 xa3 (0 : Int32) xa2
theorem e_X11_answer (σ : zH) (xa1 : Int32) (xa2 : Int32) (xa3 : Int32) : d_X11_answer σ xa1 xa2 xa3 = zin cc_X11_answer (fun t => if t = 6 then some (gl_X11_answer_6 (k_X11_answer_6 zN)) else none) 3 krL b_X11_answer 0 σ [vR 11 0, vI xa1, vI xa2, vI xa3, vU, vU, vU, vU] [] := by
  unfold d_X11_answer
  refine Eq.symm ((zin_b (es := q_X11_answer_0) rfl).trans ?_)
  refine (t_X11_answer_0 _ _ _ _ _ _ _ _ _ _).trans ?_
  refine x_cut.trans ?_
  exact (zrun_c rfl).trans (glr_X11_answer_6 _ _ _ _ _ _ _ _ _)
noncomputable def g_X11_answer {ρ : Type} (σ : zH) (av : List zAV) (q : zH → zAV → Option ρ) : Option ρ := match av with
  | [.inr (.inr (.inl (11, 0))), .inl xa1, .inl xa2, .inl xa3] => (d_X11_answer σ xa1 xa2 xa3).bind fun p => q p.1 (vL p.2)
  | _ => none
theorem gr_X11_answer {ρ : Type} (σ : zH) (xa1 : Int32) (xa2 : Int32) (xa3 : Int32) (q : zH → zAV → Option ρ) : g_X11_answer σ [vR 11 0, vI xa1, vI xa2, vI xa3] q = (d_X11_answer σ xa1 xa2 xa3).bind fun p => q p.1 (vL p.2) := rfl
theorem c_X11_answer {ρ : Type} {X : zX} (hX : zHX X) {σ : zH} {av : List zAV} {q : zH → zAV → Option ρ} {r : ρ} (h : g_X11_answer σ av q = some r) (hv : ∀ a ∈ av, zval X a) : zcon X 167 σ av q r := by
  unfold g_X11_answer at h
  split at h
  · exact zcon_L (n := 167) (ml := 8) (rc := 3) (st := 0) (kd := 11) (np := 3) (by decide +kernel) (by decide) ⟨_, _, rfl, rfl⟩ (Nat.le_of_ble_eq_true rfl) hv h (fun y h1 => (zin_ok (hy_X11_answer hX) bk_X11_answer (fun t f hf => by
      by_cases e6 : t = 6
      · rw [if_pos e6] at hf; subst e6; cases hf; exact ((fun σ L st r h => s_X11_answer_6 hX  zN σ L st r h))
      rw [if_neg e6] at hf
      cases hf) ((e_X11_answer _ _ _ _).symm.trans h1)))
  · cases h
/-! SleepWavesModel.some(III)Z -/
def q_X11_some_135 : List zEnt := zEk 135 (.iconst 0) 1 0 :: zE 136 (.istore 4) 2 :: zEk 138 (.bipush 12) 2 12 :: zE 140 (.iload_n 1) 1 :: zE 141 .imul 1 :: zE 142 (.istore 5) 2 :: [zE 144 .nop 0]
def q_X11_some_134 : List zEnt := zE 134 .lastore 1 :: q_X11_some_135
def q_X11_some_133 : List zEnt := zE 133 .i2l 1 :: q_X11_some_134
def q_X11_some_132 : List zEnt := zE 132 .iaload 1 :: q_X11_some_133
def q_X11_some_121 : List zEnt := zE 121 (.aload_n 0) 1 :: zEf 122 (.getfield 126) 3 11 49 197 (2, 78, 0) :: zEk 125 (.bipush 9) 2 9 :: zE 127 (.aload_n 0) 1 :: zEf 128 (.getfield 22) 3 11 5 153 (2, 46, 0) :: zE 131 (.iload_n 3) 1 :: q_X11_some_132
def q_X11_some_120 : List zEnt := zE 120 .lastore 1 :: q_X11_some_121
def q_X11_some_119 : List zEnt := zE 119 .i2l 1 :: q_X11_some_120
def q_X11_some_116 : List zEnt := zEc 116 (.invokevirtual 362) 3 131 1 155 0 :: q_X11_some_119
def q_X11_some_109 : List zEnt := zE 109 (.aload_n 0) 1 :: zEf 110 (.getfield 126) 3 11 49 197 (2, 78, 0) :: zEk 113 (.bipush 8) 2 8 :: zE 115 (.aload_n 0) 1 :: q_X11_some_116
def q_X11_some_108 : List zEnt := zE 108 .lastore 1 :: q_X11_some_109
def q_X11_some_107 : List zEnt := zE 107 .i2l 1 :: q_X11_some_108
def q_X11_some_104 : List zEnt := zEc 104 (.invokevirtual 359) 3 129 2 153 0 :: q_X11_some_107
def q_X11_some_101 : List zEnt := zEc 101 (.invokevirtual 356) 3 128 1 147 0 :: q_X11_some_104
def q_X11_some_93 : List zEnt := zE 93 (.aload_n 0) 1 :: zEf 94 (.getfield 126) 3 11 49 197 (2, 78, 0) :: zEk 97 (.bipush 7) 2 7 :: zE 99 (.aload_n 0) 1 :: zE 100 (.aload_n 0) 1 :: q_X11_some_101
def q_X11_some_92 : List zEnt := zE 92 .lastore 1 :: q_X11_some_93
def q_X11_some_91 : List zEnt := zE 91 .i2l 1 :: q_X11_some_92
def q_X11_some_90 : List zEnt := zE 90 .iaload 1 :: q_X11_some_91
def q_X11_some_79 : List zEnt := zE 79 (.aload_n 0) 1 :: zEf 80 (.getfield 126) 3 11 49 197 (2, 78, 0) :: zEk 83 (.bipush 6) 2 6 :: zE 85 (.aload_n 0) 1 :: zEf 86 (.getfield 16) 3 11 3 151 (2, 44, 0) :: zE 89 (.iload_n 3) 1 :: q_X11_some_90
def q_X11_some_78 : List zEnt := zE 78 .lastore 1 :: q_X11_some_79
def q_X11_some_77 : List zEnt := zE 77 .i2l 1 :: q_X11_some_78
def q_X11_some_76 : List zEnt := zE 76 .iaload 1 :: q_X11_some_77
def q_X11_some_66 : List zEnt := zE 66 (.aload_n 0) 1 :: zEf 67 (.getfield 126) 3 11 49 197 (2, 78, 0) :: zEk 70 (.iconst 5) 1 5 :: zE 71 (.aload_n 0) 1 :: zEf 72 (.getfield 13) 3 11 2 150 (2, 43, 0) :: zE 75 (.iload_n 3) 1 :: q_X11_some_76
def q_X11_some_65 : List zEnt := zE 65 .lastore 1 :: q_X11_some_66
def q_X11_some_58 : List zEnt := zE 58 (.aload_n 0) 1 :: zEf 59 (.getfield 126) 3 11 49 197 (2, 78, 0) :: zEk 62 (.iconst 4) 1 4 :: zE 63 (.iload_n 3) 1 :: zE 64 .i2l 1 :: q_X11_some_65
def q_X11_some_57 : List zEnt := zE 57 .lastore 1 :: q_X11_some_58
def q_X11_some_56 : List zEnt := zE 56 .i2l 1 :: q_X11_some_57
def q_X11_some_55 : List zEnt := zE 55 .iaload 1 :: q_X11_some_56
def q_X11_some_45 : List zEnt := zE 45 (.aload_n 0) 1 :: zEf 46 (.getfield 126) 3 11 49 197 (2, 78, 0) :: zEk 49 (.iconst 3) 1 3 :: zE 50 (.aload_n 0) 1 :: zEf 51 (.getfield 76) 3 11 23 171 (2, 64, 0) :: zE 54 (.iload_n 3) 1 :: q_X11_some_55
def q_X11_some_44 : List zEnt := zE 44 .lastore 1 :: q_X11_some_45
def q_X11_some_43 : List zEnt := zE 43 .i2l 1 :: q_X11_some_44
def q_X11_some_42 : List zEnt := zE 42 .iaload 1 :: q_X11_some_43
def q_X11_some_32 : List zEnt := zE 32 (.aload_n 0) 1 :: zEf 33 (.getfield 126) 3 11 49 197 (2, 78, 0) :: zEk 36 (.iconst 2) 1 2 :: zE 37 (.aload_n 0) 1 :: zEf 38 (.getfield 73) 3 11 22 170 (2, 63, 0) :: zE 41 (.iload_n 3) 1 :: q_X11_some_42
def q_X11_some_31 : List zEnt := zE 31 .lastore 1 :: q_X11_some_32
def q_X11_some_30 : List zEnt := zE 30 .i2l 1 :: q_X11_some_31
def q_X11_some_29 : List zEnt := zE 29 .idiv 1 :: q_X11_some_30
def q_X11_some_27 : List zEnt := zEk 27 (.bipush 96) 2 96 :: q_X11_some_29
def q_X11_some_26 : List zEnt := zE 26 .iaload 1 :: q_X11_some_27
def q_X11_some_16 : List zEnt := zE 16 (.aload_n 0) 1 :: zEf 17 (.getfield 126) 3 11 49 197 (2, 78, 0) :: zEk 20 (.iconst 1) 1 1 :: zE 21 (.aload_n 0) 1 :: zEf 22 (.getfield 7) 3 11 1 149 (2, 42, 0) :: zEk 25 (.iconst 4) 1 4 :: q_X11_some_26
def q_X11_some_15 : List zEnt := zE 15 .lastore 1 :: q_X11_some_16
def q_X11_some_14 : List zEnt := zE 14 .i2l 1 :: q_X11_some_15
def q_X11_some_13 : List zEnt := zE 13 .irem 1 :: q_X11_some_14
def q_X11_some_11 : List zEnt := zEk 11 (.bipush 96) 2 96 :: q_X11_some_13
def q_X11_some_10 : List zEnt := zE 10 .iaload 1 :: q_X11_some_11
def q_X11_some_0 : List zEnt := zE 0 (.aload_n 0) 1 :: zEf 1 (.getfield 126) 3 11 49 197 (2, 78, 0) :: zEk 4 (.iconst 0) 1 0 :: zE 5 (.aload_n 0) 1 :: zEf 6 (.getfield 7) 3 11 1 149 (2, 42, 0) :: zEk 9 (.iconst 4) 1 4 :: q_X11_some_10
def q_X11_some_201 : List zEnt := zEa 201 (.goto 4) 3 205 :: []
def q_X11_some_200 : List zEnt := zEk 200 (.iconst 1) 1 1 :: q_X11_some_201
def q_X11_some_197 : List zEnt := zEa 197 (.ifCond .ne 7) 3 204 :: q_X11_some_200
def q_X11_some_195 : List zEnt := (195, (.lconst 1), 1, (0, 0, 0, 0), (0, 0, 0), 0, 1, []) :: zE 196 .lcmp 1 :: q_X11_some_197
def q_X11_some_192 : List zEnt := zEc 192 (.invokevirtual 365) 3 167 4 156 0 :: q_X11_some_195
def q_X11_some_191 : List zEnt := zE 191 .iaload 1 :: q_X11_some_192
def q_X11_some_185 : List zEnt := zE 185 (.aload_n 0) 1 :: zEf 186 (.getfield 120) 3 11 47 195 (2, 76, 0) :: zE 189 (.iload 5) 2 :: q_X11_some_191
def q_X11_some_184 : List zEnt := zE 184 .iaload 1 :: q_X11_some_185
def q_X11_some_176 : List zEnt := zE 176 (.aload_n 0) 1 :: zE 177 (.iload_n 1) 1 :: zE 178 (.aload_n 0) 1 :: zEf 179 (.getfield 117) 3 11 46 194 (2, 75, 0) :: zE 182 (.iload 5) 2 :: q_X11_some_184
def q_X11_some_173 : List zEnt := zEa 173 (.if_icmp .ne 31) 3 204 :: q_X11_some_176
def q_X11_some_172 : List zEnt := zE 172 (.iload_n 2) 1 :: q_X11_some_173
def q_X11_some_171 : List zEnt := zE 171 .iaload 1 :: q_X11_some_172
def q_X11_some_165 : List zEnt := zE 165 (.aload_n 0) 1 :: zEf 166 (.getfield 114) 3 11 45 193 (2, 74, 0) :: zE 169 (.iload 5) 2 :: q_X11_some_171
def q_X11_some_162 : List zEnt := zEa 162 (.ifCond .ne 51) 3 213 :: q_X11_some_165
def q_X11_some_160 : List zEnt := zE 160 (.iload 4) 2 :: q_X11_some_162
def q_X11_some_157 : List zEnt := zEa 157 (.if_icmp .ge 56) 3 213 :: q_X11_some_160
def q_X11_some_156 : List zEnt := zE 156 .iadd 1 :: q_X11_some_157
def q_X11_some_155 : List zEnt := zE 155 .iaload 1 :: q_X11_some_156
def q_X11_some_144 : List zEnt := zE 144 (.iload 5) 2 :: zEk 146 (.bipush 12) 2 12 :: zE 148 (.iload_n 1) 1 :: zE 149 .imul 1 :: zE 150 (.aload_n 0) 1 :: zEf 151 (.getfield 111) 3 11 44 192 (2, 73, 0) :: zE 154 (.iload_n 1) 1 :: q_X11_some_155
def q_X11_some_204 : List zEnt := zEk 204 (.iconst 0) 1 0 :: [zE 205 .nop 0]
def q_X11_some_210 : List zEnt := zEa 210 (.goto (-66)) 3 144 :: []
def q_X11_some_205 : List zEnt := zE 205 (.istore 4) 2 :: zEk 207 (.iinc 5 1) 3 1 :: q_X11_some_210
def q_X11_some_215 : List zEnt := zE 215 .ireturn 1 :: []
def q_X11_some_213 : List zEnt := zE 213 (.iload 4) 2 :: q_X11_some_215
def b_X11_some : List (Nat × List zEnt) := [(0, q_X11_some_0), (144, q_X11_some_144), (204, q_X11_some_204), (205, q_X11_some_205), (213, q_X11_some_213)]
theorem bk_X11_some : zchB 168 b_X11_some = true := by decide +kernel
noncomputable def cc_X11_some {ρ : Type} : Nat → zH → List zAV → (zH → zAV → Option ρ) → Option ρ := fun n σ av q => if n = 128 then g_X11_upSet σ av q else if n = 129 then g_X11_menOf σ av q else if n = 131 then g_X11_toneNow σ av q else if n = 167 then g_X11_answer σ av q else none
theorem cs_X11_some {ρ : Type} {X : zX} (hX : zHX X) : zCS X (cc_X11_some (ρ := ρ)) := by
  intro n σ av q r h hv
  unfold cc_X11_some at h
  by_cases e_X11_upSet : n = 128
  · rw [if_pos e_X11_upSet] at h
    subst e_X11_upSet
    exact c_X11_upSet hX h hv
  rw [if_neg e_X11_upSet] at h
  by_cases e_X11_menOf : n = 129
  · rw [if_pos e_X11_menOf] at h
    subst e_X11_menOf
    exact c_X11_menOf hX h hv
  rw [if_neg e_X11_menOf] at h
  by_cases e_X11_toneNow : n = 131
  · rw [if_pos e_X11_toneNow] at h
    subst e_X11_toneNow
    exact c_X11_toneNow hX h hv
  rw [if_neg e_X11_toneNow] at h
  by_cases e_X11_answer : n = 167
  · rw [if_pos e_X11_answer] at h
    subst e_X11_answer
    exact c_X11_answer hX h hv
  rw [if_neg e_X11_answer] at h
  cases h
theorem cl_X11_some_X11_upSet {ρ : Type} (σ : zH) (av : List zAV) (q : zH → zAV → Option ρ) : cc_X11_some 128 σ av q = g_X11_upSet σ av q := rfl
theorem cl_X11_some_X11_menOf {ρ : Type} (σ : zH) (av : List zAV) (q : zH → zAV → Option ρ) : cc_X11_some 129 σ av q = g_X11_menOf σ av q := rfl
theorem cl_X11_some_X11_toneNow {ρ : Type} (σ : zH) (av : List zAV) (q : zH → zAV → Option ρ) : cc_X11_some 131 σ av q = g_X11_toneNow σ av q := rfl
theorem cl_X11_some_X11_answer {ρ : Type} (σ : zH) (av : List zAV) (q : zH → zAV → Option ρ) : cc_X11_some 167 σ av q = g_X11_answer σ av q := rfl
theorem hy_X11_some {ρ : Type} {X : zX} (hX : zHX X) : zHY X 168 (cc_X11_some (ρ := ρ)) := zHX.hY hX (cs_X11_some hX) (zmok_all 168 (by decide))
def gl_X11_some_144 {ρ : Type} (f : zH → Int32 → Int32 → Int32 → Int32 → Option ρ) (σ : zH) (L st : List zAV) : Option ρ := match L, st with
  | [.inr (.inr (.inl (11, 0))), .inl x1, .inl x2, _, .inl x4, .inl x5], [] => f σ x1 x2 x4 x5
  | _, _ => none
def gl_X11_some_204 {ρ : Type} (f : zH → Int32 → Int32 → Int32 → Option ρ) (σ : zH) (L st : List zAV) : Option ρ := match L, st with
  | [.inr (.inr (.inl (11, 0))), .inl x1, .inl x2, _, _, .inl x5], [] => f σ x1 x2 x5
  | _, _ => none
def gl_X11_some_205 {ρ : Type} (f : zH → Int32 → Int32 → Int32 → Int32 → Option ρ) (σ : zH) (L st : List zAV) : Option ρ := match L, st with
  | [.inr (.inr (.inl (11, 0))), .inl x1, .inl x2, _, _, .inl x5], [.inl xs0] => f σ x1 x2 x5 xs0
  | _, _ => none
theorem glr_X11_some_144 {ρ : Type} (f : zH → Int32 → Int32 → Int32 → Int32 → Option ρ) (σ : zH) (x1 : Int32) (x2 : Int32) (x4 : Int32) (x5 : Int32) (y3 : zAV) : gl_X11_some_144 f σ [vR 11 0, vI x1, vI x2, y3, vI x4, vI x5] [] = f σ x1 x2 x4 x5 := rfl
theorem glr_X11_some_204 {ρ : Type} (f : zH → Int32 → Int32 → Int32 → Option ρ) (σ : zH) (x1 : Int32) (x2 : Int32) (x5 : Int32) (y3 : zAV) (y4 : zAV) : gl_X11_some_204 f σ [vR 11 0, vI x1, vI x2, y3, y4, vI x5] [] = f σ x1 x2 x5 := rfl
theorem glr_X11_some_205 {ρ : Type} (f : zH → Int32 → Int32 → Int32 → Int32 → Option ρ) (σ : zH) (x1 : Int32) (x2 : Int32) (x5 : Int32) (xs0 : Int32) (y3 : zAV) (y4 : zAV) : gl_X11_some_205 f σ [vR 11 0, vI x1, vI x2, y3, y4, vI x5] [vI xs0] = f σ x1 x2 x5 xs0 := rfl
theorem t_X11_some_0 {G : Nat → zH → List zAV → List zAV → Option (zH × Int32)} (es : List zEnt) (σ : zH) (x1 : Int32) (x2 : Int32) (x3 : Int32) (y4 : zAV) (y5 : zAV) (w4 : Int32) (w9 : Int32) : zev cc_X11_some G 1 krI (zE 0 (.aload_n 0) 1 :: zEf 1 (.getfield 126) 3 11 49 197 (2, 78, 0) :: zEk 4 (.iconst 0) 1 w4 :: zE 5 (.aload_n 0) 1 :: zEf 6 (.getfield 7) 3 11 1 149 (2, 42, 0) :: zEk 9 (.iconst 4) 1 w9 :: es) σ [vR 11 0, vI x1, vI x2, vI x3, y4, y5] [] = zev cc_X11_some G 1 krI es σ [vR 11 0, vI x1, vI x2, vI x3, y4, y5] [vI w9, vR 42 0, vI w4, vR 78 0] := rfl
theorem t_X11_some_11 {G : Nat → zH → List zAV → List zAV → Option (zH × Int32)} (es : List zEnt) (σ : zH) (x1 : Int32) (x2 : Int32) (x3 : Int32) (xs1 : Int32) (xs2 : Int32) (y4 : zAV) (y5 : zAV) (w11 : Int32) : zev cc_X11_some G 1 krI (zEk 11 (.bipush 96) 2 w11 :: es) σ [vR 11 0, vI x1, vI x2, vI x3, y4, y5] [vI xs2, vI xs1, vR 78 0] = zev cc_X11_some G 1 krI es σ [vR 11 0, vI x1, vI x2, vI x3, y4, y5] [vI w11, vI xs2, vI xs1, vR 78 0] := rfl
theorem t_X11_some_14 {G : Nat → zH → List zAV → List zAV → Option (zH × Int32)} (es : List zEnt) (σ : zH) (x1 : Int32) (x2 : Int32) (x3 : Int32) (xs1 : Int32) (xs2 : Int32) (y4 : zAV) (y5 : zAV)  : zev cc_X11_some G 1 krI (zE 14 .i2l 1 :: es) σ [vR 11 0, vI x1, vI x2, vI x3, y4, y5] [vI xs2, vI xs1, vR 78 0] = zev cc_X11_some G 1 krI es σ [vR 11 0, vI x1, vI x2, vI x3, y4, y5] [vL xs2.toInt64, vI xs1, vR 78 0] := rfl
theorem t_X11_some_16 {G : Nat → zH → List zAV → List zAV → Option (zH × Int32)} (es : List zEnt) (σ : zH) (x1 : Int32) (x2 : Int32) (x3 : Int32) (y4 : zAV) (y5 : zAV) (w20 : Int32) (w25 : Int32) : zev cc_X11_some G 1 krI (zE 16 (.aload_n 0) 1 :: zEf 17 (.getfield 126) 3 11 49 197 (2, 78, 0) :: zEk 20 (.iconst 1) 1 w20 :: zE 21 (.aload_n 0) 1 :: zEf 22 (.getfield 7) 3 11 1 149 (2, 42, 0) :: zEk 25 (.iconst 4) 1 w25 :: es) σ [vR 11 0, vI x1, vI x2, vI x3, y4, y5] [] = zev cc_X11_some G 1 krI es σ [vR 11 0, vI x1, vI x2, vI x3, y4, y5] [vI w25, vR 42 0, vI w20, vR 78 0] := rfl
theorem t_X11_some_27 {G : Nat → zH → List zAV → List zAV → Option (zH × Int32)} (es : List zEnt) (σ : zH) (x1 : Int32) (x2 : Int32) (x3 : Int32) (xs1 : Int32) (xs2 : Int32) (y4 : zAV) (y5 : zAV) (w27 : Int32) : zev cc_X11_some G 1 krI (zEk 27 (.bipush 96) 2 w27 :: es) σ [vR 11 0, vI x1, vI x2, vI x3, y4, y5] [vI xs2, vI xs1, vR 78 0] = zev cc_X11_some G 1 krI es σ [vR 11 0, vI x1, vI x2, vI x3, y4, y5] [vI w27, vI xs2, vI xs1, vR 78 0] := rfl
theorem t_X11_some_30 {G : Nat → zH → List zAV → List zAV → Option (zH × Int32)} (es : List zEnt) (σ : zH) (x1 : Int32) (x2 : Int32) (x3 : Int32) (xs1 : Int32) (xs2 : Int32) (y4 : zAV) (y5 : zAV)  : zev cc_X11_some G 1 krI (zE 30 .i2l 1 :: es) σ [vR 11 0, vI x1, vI x2, vI x3, y4, y5] [vI xs2, vI xs1, vR 78 0] = zev cc_X11_some G 1 krI es σ [vR 11 0, vI x1, vI x2, vI x3, y4, y5] [vL xs2.toInt64, vI xs1, vR 78 0] := rfl
theorem t_X11_some_32 {G : Nat → zH → List zAV → List zAV → Option (zH × Int32)} (es : List zEnt) (σ : zH) (x1 : Int32) (x2 : Int32) (x3 : Int32) (y4 : zAV) (y5 : zAV) (w36 : Int32) : zev cc_X11_some G 1 krI (zE 32 (.aload_n 0) 1 :: zEf 33 (.getfield 126) 3 11 49 197 (2, 78, 0) :: zEk 36 (.iconst 2) 1 w36 :: zE 37 (.aload_n 0) 1 :: zEf 38 (.getfield 73) 3 11 22 170 (2, 63, 0) :: zE 41 (.iload_n 3) 1 :: es) σ [vR 11 0, vI x1, vI x2, vI x3, y4, y5] [] = zev cc_X11_some G 1 krI es σ [vR 11 0, vI x1, vI x2, vI x3, y4, y5] [vI x3, vR 63 0, vI w36, vR 78 0] := rfl
theorem t_X11_some_43 {G : Nat → zH → List zAV → List zAV → Option (zH × Int32)} (es : List zEnt) (σ : zH) (x1 : Int32) (x2 : Int32) (x3 : Int32) (xs1 : Int32) (xs2 : Int32) (y4 : zAV) (y5 : zAV)  : zev cc_X11_some G 1 krI (zE 43 .i2l 1 :: es) σ [vR 11 0, vI x1, vI x2, vI x3, y4, y5] [vI xs2, vI xs1, vR 78 0] = zev cc_X11_some G 1 krI es σ [vR 11 0, vI x1, vI x2, vI x3, y4, y5] [vL xs2.toInt64, vI xs1, vR 78 0] := rfl
theorem t_X11_some_45 {G : Nat → zH → List zAV → List zAV → Option (zH × Int32)} (es : List zEnt) (σ : zH) (x1 : Int32) (x2 : Int32) (x3 : Int32) (y4 : zAV) (y5 : zAV) (w49 : Int32) : zev cc_X11_some G 1 krI (zE 45 (.aload_n 0) 1 :: zEf 46 (.getfield 126) 3 11 49 197 (2, 78, 0) :: zEk 49 (.iconst 3) 1 w49 :: zE 50 (.aload_n 0) 1 :: zEf 51 (.getfield 76) 3 11 23 171 (2, 64, 0) :: zE 54 (.iload_n 3) 1 :: es) σ [vR 11 0, vI x1, vI x2, vI x3, y4, y5] [] = zev cc_X11_some G 1 krI es σ [vR 11 0, vI x1, vI x2, vI x3, y4, y5] [vI x3, vR 64 0, vI w49, vR 78 0] := rfl
theorem t_X11_some_56 {G : Nat → zH → List zAV → List zAV → Option (zH × Int32)} (es : List zEnt) (σ : zH) (x1 : Int32) (x2 : Int32) (x3 : Int32) (xs1 : Int32) (xs2 : Int32) (y4 : zAV) (y5 : zAV)  : zev cc_X11_some G 1 krI (zE 56 .i2l 1 :: es) σ [vR 11 0, vI x1, vI x2, vI x3, y4, y5] [vI xs2, vI xs1, vR 78 0] = zev cc_X11_some G 1 krI es σ [vR 11 0, vI x1, vI x2, vI x3, y4, y5] [vL xs2.toInt64, vI xs1, vR 78 0] := rfl
theorem t_X11_some_58 {G : Nat → zH → List zAV → List zAV → Option (zH × Int32)} (es : List zEnt) (σ : zH) (x1 : Int32) (x2 : Int32) (x3 : Int32) (y4 : zAV) (y5 : zAV) (w62 : Int32) : zev cc_X11_some G 1 krI (zE 58 (.aload_n 0) 1 :: zEf 59 (.getfield 126) 3 11 49 197 (2, 78, 0) :: zEk 62 (.iconst 4) 1 w62 :: zE 63 (.iload_n 3) 1 :: zE 64 .i2l 1 :: es) σ [vR 11 0, vI x1, vI x2, vI x3, y4, y5] [] = zev cc_X11_some G 1 krI es σ [vR 11 0, vI x1, vI x2, vI x3, y4, y5] [vL x3.toInt64, vI w62, vR 78 0] := rfl
theorem t_X11_some_66 {G : Nat → zH → List zAV → List zAV → Option (zH × Int32)} (es : List zEnt) (σ : zH) (x1 : Int32) (x2 : Int32) (x3 : Int32) (y4 : zAV) (y5 : zAV) (w70 : Int32) : zev cc_X11_some G 1 krI (zE 66 (.aload_n 0) 1 :: zEf 67 (.getfield 126) 3 11 49 197 (2, 78, 0) :: zEk 70 (.iconst 5) 1 w70 :: zE 71 (.aload_n 0) 1 :: zEf 72 (.getfield 13) 3 11 2 150 (2, 43, 0) :: zE 75 (.iload_n 3) 1 :: es) σ [vR 11 0, vI x1, vI x2, vI x3, y4, y5] [] = zev cc_X11_some G 1 krI es σ [vR 11 0, vI x1, vI x2, vI x3, y4, y5] [vI x3, vR 43 0, vI w70, vR 78 0] := rfl
theorem t_X11_some_77 {G : Nat → zH → List zAV → List zAV → Option (zH × Int32)} (es : List zEnt) (σ : zH) (x1 : Int32) (x2 : Int32) (x3 : Int32) (xs1 : Int32) (xs2 : Int32) (y4 : zAV) (y5 : zAV)  : zev cc_X11_some G 1 krI (zE 77 .i2l 1 :: es) σ [vR 11 0, vI x1, vI x2, vI x3, y4, y5] [vI xs2, vI xs1, vR 78 0] = zev cc_X11_some G 1 krI es σ [vR 11 0, vI x1, vI x2, vI x3, y4, y5] [vL xs2.toInt64, vI xs1, vR 78 0] := rfl
theorem t_X11_some_79 {G : Nat → zH → List zAV → List zAV → Option (zH × Int32)} (es : List zEnt) (σ : zH) (x1 : Int32) (x2 : Int32) (x3 : Int32) (y4 : zAV) (y5 : zAV) (w83 : Int32) : zev cc_X11_some G 1 krI (zE 79 (.aload_n 0) 1 :: zEf 80 (.getfield 126) 3 11 49 197 (2, 78, 0) :: zEk 83 (.bipush 6) 2 w83 :: zE 85 (.aload_n 0) 1 :: zEf 86 (.getfield 16) 3 11 3 151 (2, 44, 0) :: zE 89 (.iload_n 3) 1 :: es) σ [vR 11 0, vI x1, vI x2, vI x3, y4, y5] [] = zev cc_X11_some G 1 krI es σ [vR 11 0, vI x1, vI x2, vI x3, y4, y5] [vI x3, vR 44 0, vI w83, vR 78 0] := rfl
theorem t_X11_some_91 {G : Nat → zH → List zAV → List zAV → Option (zH × Int32)} (es : List zEnt) (σ : zH) (x1 : Int32) (x2 : Int32) (x3 : Int32) (xs1 : Int32) (xs2 : Int32) (y4 : zAV) (y5 : zAV)  : zev cc_X11_some G 1 krI (zE 91 .i2l 1 :: es) σ [vR 11 0, vI x1, vI x2, vI x3, y4, y5] [vI xs2, vI xs1, vR 78 0] = zev cc_X11_some G 1 krI es σ [vR 11 0, vI x1, vI x2, vI x3, y4, y5] [vL xs2.toInt64, vI xs1, vR 78 0] := rfl
theorem t_X11_some_93 {G : Nat → zH → List zAV → List zAV → Option (zH × Int32)} (es : List zEnt) (σ : zH) (x1 : Int32) (x2 : Int32) (x3 : Int32) (y4 : zAV) (y5 : zAV) (w97 : Int32) : zev cc_X11_some G 1 krI (zE 93 (.aload_n 0) 1 :: zEf 94 (.getfield 126) 3 11 49 197 (2, 78, 0) :: zEk 97 (.bipush 7) 2 w97 :: zE 99 (.aload_n 0) 1 :: zE 100 (.aload_n 0) 1 :: es) σ [vR 11 0, vI x1, vI x2, vI x3, y4, y5] [] = zev cc_X11_some G 1 krI es σ [vR 11 0, vI x1, vI x2, vI x3, y4, y5] [vR 11 0, vR 11 0, vI w97, vR 78 0] := rfl
theorem t_X11_some_107 {G : Nat → zH → List zAV → List zAV → Option (zH × Int32)} (es : List zEnt) (σ : zH) (x1 : Int32) (x2 : Int32) (x3 : Int32) (xs1 : Int32) (xs2 : Int32) (y4 : zAV) (y5 : zAV)  : zev cc_X11_some G 1 krI (zE 107 .i2l 1 :: es) σ [vR 11 0, vI x1, vI x2, vI x3, y4, y5] [vI xs2, vI xs1, vR 78 0] = zev cc_X11_some G 1 krI es σ [vR 11 0, vI x1, vI x2, vI x3, y4, y5] [vL xs2.toInt64, vI xs1, vR 78 0] := rfl
theorem t_X11_some_109 {G : Nat → zH → List zAV → List zAV → Option (zH × Int32)} (es : List zEnt) (σ : zH) (x1 : Int32) (x2 : Int32) (x3 : Int32) (y4 : zAV) (y5 : zAV) (w113 : Int32) : zev cc_X11_some G 1 krI (zE 109 (.aload_n 0) 1 :: zEf 110 (.getfield 126) 3 11 49 197 (2, 78, 0) :: zEk 113 (.bipush 8) 2 w113 :: zE 115 (.aload_n 0) 1 :: es) σ [vR 11 0, vI x1, vI x2, vI x3, y4, y5] [] = zev cc_X11_some G 1 krI es σ [vR 11 0, vI x1, vI x2, vI x3, y4, y5] [vR 11 0, vI w113, vR 78 0] := rfl
theorem t_X11_some_119 {G : Nat → zH → List zAV → List zAV → Option (zH × Int32)} (es : List zEnt) (σ : zH) (x1 : Int32) (x2 : Int32) (x3 : Int32) (xs1 : Int32) (xs2 : Int32) (y4 : zAV) (y5 : zAV)  : zev cc_X11_some G 1 krI (zE 119 .i2l 1 :: es) σ [vR 11 0, vI x1, vI x2, vI x3, y4, y5] [vI xs2, vI xs1, vR 78 0] = zev cc_X11_some G 1 krI es σ [vR 11 0, vI x1, vI x2, vI x3, y4, y5] [vL xs2.toInt64, vI xs1, vR 78 0] := rfl
theorem t_X11_some_121 {G : Nat → zH → List zAV → List zAV → Option (zH × Int32)} (es : List zEnt) (σ : zH) (x1 : Int32) (x2 : Int32) (x3 : Int32) (y4 : zAV) (y5 : zAV) (w125 : Int32) : zev cc_X11_some G 1 krI (zE 121 (.aload_n 0) 1 :: zEf 122 (.getfield 126) 3 11 49 197 (2, 78, 0) :: zEk 125 (.bipush 9) 2 w125 :: zE 127 (.aload_n 0) 1 :: zEf 128 (.getfield 22) 3 11 5 153 (2, 46, 0) :: zE 131 (.iload_n 3) 1 :: es) σ [vR 11 0, vI x1, vI x2, vI x3, y4, y5] [] = zev cc_X11_some G 1 krI es σ [vR 11 0, vI x1, vI x2, vI x3, y4, y5] [vI x3, vR 46 0, vI w125, vR 78 0] := rfl
theorem t_X11_some_133 {G : Nat → zH → List zAV → List zAV → Option (zH × Int32)} (es : List zEnt) (σ : zH) (x1 : Int32) (x2 : Int32) (xs1 : Int32) (xs2 : Int32) (y3 : zAV) (y4 : zAV) (y5 : zAV)  : zev cc_X11_some G 1 krI (zE 133 .i2l 1 :: es) σ [vR 11 0, vI x1, vI x2, y3, y4, y5] [vI xs2, vI xs1, vR 78 0] = zev cc_X11_some G 1 krI es σ [vR 11 0, vI x1, vI x2, y3, y4, y5] [vL xs2.toInt64, vI xs1, vR 78 0] := rfl
theorem t_X11_some_135 {G : Nat → zH → List zAV → List zAV → Option (zH × Int32)} (es : List zEnt) (σ : zH) (x1 : Int32) (x2 : Int32) (y3 : zAV) (y4 : zAV) (y5 : zAV) (w135 : Int32) (w138 : Int32) : zev cc_X11_some G 1 krI (zEk 135 (.iconst 0) 1 w135 :: zE 136 (.istore 4) 2 :: zEk 138 (.bipush 12) 2 w138 :: zE 140 (.iload_n 1) 1 :: zE 141 .imul 1 :: zE 142 (.istore 5) 2 :: es) σ [vR 11 0, vI x1, vI x2, y3, y4, y5] [] = zev cc_X11_some G 1 krI es σ [vR 11 0, vI x1, vI x2, (zkp y3), vI w135, vI (w138 * x1)] [] := rfl
theorem t_X11_some_144 {G : Nat → zH → List zAV → List zAV → Option (zH × Int32)} (es : List zEnt) (σ : zH) (x1 : Int32) (x2 : Int32) (x4 : Int32) (x5 : Int32) (y3 : zAV) (w146 : Int32) : zev cc_X11_some G 1 krI (zE 144 (.iload 5) 2 :: zEk 146 (.bipush 12) 2 w146 :: zE 148 (.iload_n 1) 1 :: zE 149 .imul 1 :: zE 150 (.aload_n 0) 1 :: zEf 151 (.getfield 111) 3 11 44 192 (2, 73, 0) :: zE 154 (.iload_n 1) 1 :: es) σ [vR 11 0, vI x1, vI x2, y3, vI x4, vI x5] [] = zev cc_X11_some G 1 krI es σ [vR 11 0, vI x1, vI x2, y3, vI x4, vI x5] [vI x1, vR 73 0, vI (w146 * x1), vI x5] := rfl
theorem t_X11_some_156 {G : Nat → zH → List zAV → List zAV → Option (zH × Int32)} (es : List zEnt) (σ : zH) (x1 : Int32) (x2 : Int32) (x4 : Int32) (x5 : Int32) (xs0 : Int32) (xs1 : Int32) (xs2 : Int32) (y3 : zAV)  : zev cc_X11_some G 1 krI (zE 156 .iadd 1 :: es) σ [vR 11 0, vI x1, vI x2, y3, vI x4, vI x5] [vI xs2, vI xs1, vI xs0] = zev cc_X11_some G 1 krI es σ [vR 11 0, vI x1, vI x2, y3, vI x4, vI x5] [vI (xs1 + xs2), vI xs0] := rfl
theorem t_X11_some_160 {G : Nat → zH → List zAV → List zAV → Option (zH × Int32)} (es : List zEnt) (σ : zH) (x1 : Int32) (x2 : Int32) (x4 : Int32) (x5 : Int32) (y3 : zAV)  : zev cc_X11_some G 1 krI (zE 160 (.iload 4) 2 :: es) σ [vR 11 0, vI x1, vI x2, y3, vI x4, vI x5] [] = zev cc_X11_some G 1 krI es σ [vR 11 0, vI x1, vI x2, y3, vI x4, vI x5] [vI x4] := rfl
theorem t_X11_some_165 {G : Nat → zH → List zAV → List zAV → Option (zH × Int32)} (es : List zEnt) (σ : zH) (x1 : Int32) (x2 : Int32) (x5 : Int32) (y3 : zAV) (y4 : zAV)  : zev cc_X11_some G 1 krI (zE 165 (.aload_n 0) 1 :: zEf 166 (.getfield 114) 3 11 45 193 (2, 74, 0) :: zE 169 (.iload 5) 2 :: es) σ [vR 11 0, vI x1, vI x2, y3, y4, vI x5] [] = zev cc_X11_some G 1 krI es σ [vR 11 0, vI x1, vI x2, y3, y4, vI x5] [vI x5, vR 74 0] := rfl
theorem t_X11_some_172 {G : Nat → zH → List zAV → List zAV → Option (zH × Int32)} (es : List zEnt) (σ : zH) (x1 : Int32) (x2 : Int32) (x5 : Int32) (xs0 : Int32) (y3 : zAV) (y4 : zAV)  : zev cc_X11_some G 1 krI (zE 172 (.iload_n 2) 1 :: es) σ [vR 11 0, vI x1, vI x2, y3, y4, vI x5] [vI xs0] = zev cc_X11_some G 1 krI es σ [vR 11 0, vI x1, vI x2, y3, y4, vI x5] [vI x2, vI xs0] := rfl
theorem t_X11_some_176 {G : Nat → zH → List zAV → List zAV → Option (zH × Int32)} (es : List zEnt) (σ : zH) (x1 : Int32) (x2 : Int32) (x5 : Int32) (y3 : zAV) (y4 : zAV)  : zev cc_X11_some G 1 krI (zE 176 (.aload_n 0) 1 :: zE 177 (.iload_n 1) 1 :: zE 178 (.aload_n 0) 1 :: zEf 179 (.getfield 117) 3 11 46 194 (2, 75, 0) :: zE 182 (.iload 5) 2 :: es) σ [vR 11 0, vI x1, vI x2, y3, y4, vI x5] [] = zev cc_X11_some G 1 krI es σ [vR 11 0, vI x1, vI x2, y3, y4, vI x5] [vI x5, vR 75 0, vI x1, vR 11 0] := rfl
theorem t_X11_some_185 {G : Nat → zH → List zAV → List zAV → Option (zH × Int32)} (es : List zEnt) (σ : zH) (x1 : Int32) (x2 : Int32) (x5 : Int32) (xs1 : Int32) (xs2 : Int32) (y3 : zAV) (y4 : zAV)  : zev cc_X11_some G 1 krI (zE 185 (.aload_n 0) 1 :: zEf 186 (.getfield 120) 3 11 47 195 (2, 76, 0) :: zE 189 (.iload 5) 2 :: es) σ [vR 11 0, vI x1, vI x2, y3, y4, vI x5] [vI xs2, vI xs1, vR 11 0] = zev cc_X11_some G 1 krI es σ [vR 11 0, vI x1, vI x2, y3, y4, vI x5] [vI x5, vR 76 0, vI xs2, vI xs1, vR 11 0] := rfl
theorem t_X11_some_195 {G : Nat → zH → List zAV → List zAV → Option (zH × Int32)} (es : List zEnt) (σ : zH) (x1 : Int32) (x2 : Int32) (x5 : Int32) (zs0 : Int64) (y3 : zAV) (y4 : zAV) (w195 : Int64) : zev cc_X11_some G 1 krI ((195, (.lconst 1), 1, (0, 0, 0, 0), (0, 0, 0), 0, w195, []) :: zE 196 .lcmp 1 :: es) σ [vR 11 0, vI x1, vI x2, y3, y4, vI x5] [vL zs0] = zev cc_X11_some G 1 krI es σ [vR 11 0, vI x1, vI x2, y3, y4, vI x5] [vI (lg_cmp zs0 w195)] := rfl
theorem t_X11_some_200 {G : Nat → zH → List zAV → List zAV → Option (zH × Int32)} (es : List zEnt) (σ : zH) (x1 : Int32) (x2 : Int32) (x5 : Int32) (y3 : zAV) (y4 : zAV) (w200 : Int32) : zev cc_X11_some G 1 krI (zEk 200 (.iconst 1) 1 w200 :: es) σ [vR 11 0, vI x1, vI x2, y3, y4, vI x5] [] = zev cc_X11_some G 1 krI es σ [vR 11 0, vI x1, vI x2, y3, y4, vI x5] [vI w200] := rfl
theorem t_X11_some_204 {G : Nat → zH → List zAV → List zAV → Option (zH × Int32)} (es : List zEnt) (σ : zH) (x1 : Int32) (x2 : Int32) (x5 : Int32) (y3 : zAV) (y4 : zAV) (w204 : Int32) : zev cc_X11_some G 1 krI (zEk 204 (.iconst 0) 1 w204 :: es) σ [vR 11 0, vI x1, vI x2, y3, y4, vI x5] [] = zev cc_X11_some G 1 krI es σ [vR 11 0, vI x1, vI x2, y3, y4, vI x5] [vI w204] := rfl
theorem t_X11_some_205 {G : Nat → zH → List zAV → List zAV → Option (zH × Int32)} (es : List zEnt) (σ : zH) (x1 : Int32) (x2 : Int32) (x5 : Int32) (xs0 : Int32) (y3 : zAV) (y4 : zAV) (w207 : Int32) : zev cc_X11_some G 1 krI (zE 205 (.istore 4) 2 :: zEk 207 (.iinc 5 1) 3 w207 :: es) σ [vR 11 0, vI x1, vI x2, y3, y4, vI x5] [vI xs0] = zev cc_X11_some G 1 krI es σ [vR 11 0, vI x1, vI x2, (zkp y3), vI xs0, vI (x5 + w207)] [] := rfl
theorem t_X11_some_213 {G : Nat → zH → List zAV → List zAV → Option (zH × Int32)} (es : List zEnt) (σ : zH) (x4 : Int32) (y0 : zAV) (y1 : zAV) (y2 : zAV) (y3 : zAV) (y5 : zAV)  : zev cc_X11_some G 1 krI (zE 213 (.iload 4) 2 :: es) σ [y0, y1, y2, y3, vI x4, y5] [] = zev cc_X11_some G 1 krI es σ [y0, y1, y2, y3, vI x4, y5] [vI x4] := rfl
noncomputable def j_X11_some_205 (c144 : zH → Int32 → Int32 → Int32 → Int32 → Option (zH × Int32)) (σ : zH) (x1 : Int32) (x2 : Int32) (x5 : Int32) (xs0 : Int32) : Option (zH × Int32) :=
  c144 σ x1 x2 xs0 (x5 + (1 : Int32))
theorem e_X11_some_205 (c144 : zH → Int32 → Int32 → Int32 → Int32 → Option (zH × Int32)) (σ : zH) (x1 : Int32) (x2 : Int32) (x5 : Int32) (xs0 : Int32) (y3 : zAV) (y4 : zAV) : j_X11_some_205 c144 σ x1 x2 x5 xs0 = zin cc_X11_some (fun t => if t = 144 then some (gl_X11_some_144 c144) else none) 1 krI b_X11_some 205 σ [vR 11 0, vI x1, vI x2, y3, y4, vI x5] [vI xs0] := by
  unfold j_X11_some_205
  refine Eq.symm ((zin_b (es := q_X11_some_205) rfl).trans ?_)
  refine (t_X11_some_205 _ _ _ _ _ _ _ _ _).trans ?_
  refine x_goto.trans ?_
  exact (zrun_c rfl).trans (glr_X11_some_144 _ _ _ _ _ _ _)
theorem s_X11_some_205 {X : zX} (hX : zHX X) {c144 : zH → Int32 → Int32 → Int32 → Int32 → Option (zH × Int32)} (h144 : ∀ σ L st r, gl_X11_some_144 c144 σ L st = some r → zGW X 168 krI 144 σ L st r) : ∀ σ L st r, gl_X11_some_205 (j_X11_some_205 c144) σ L st = some r → zGW X 168 krI 205 σ L st r := by
  intro σ L st r h
  unfold gl_X11_some_205 at h
  split at h
  · exact zin_ok (hy_X11_some hX) bk_X11_some (fun t f hf => by
    by_cases e144 : t = 144
    · rw [if_pos e144] at hf; subst e144; cases hf; exact h144
    rw [if_neg e144] at hf
    cases hf) ((e_X11_some_205 _ _ _ _ _ _ _ _).symm.trans h)
  · cases h
noncomputable def j_X11_some_204 (c144 : zH → Int32 → Int32 → Int32 → Int32 → Option (zH × Int32)) (σ : zH) (x1 : Int32) (x2 : Int32) (x5 : Int32) : Option (zH × Int32) :=
  (j_X11_some_205 c144) σ x1 x2 x5 (0 : Int32)
theorem e_X11_some_204 (c144 : zH → Int32 → Int32 → Int32 → Int32 → Option (zH × Int32)) (σ : zH) (x1 : Int32) (x2 : Int32) (x5 : Int32) (y3 : zAV) (y4 : zAV) : j_X11_some_204 c144 σ x1 x2 x5 = zin cc_X11_some (fun t => if t = 205 then some (gl_X11_some_205 (j_X11_some_205 c144)) else none) 1 krI b_X11_some 204 σ [vR 11 0, vI x1, vI x2, y3, y4, vI x5] [] := by
  unfold j_X11_some_204
  refine Eq.symm ((zin_b (es := q_X11_some_204) rfl).trans ?_)
  refine (t_X11_some_204 _ _ _ _ _ _ _ _).trans ?_
  refine x_cut.trans ?_
  exact (zrun_c rfl).trans (glr_X11_some_205 _ _ _ _ _ _ _ _)
theorem s_X11_some_204 {X : zX} (hX : zHX X) {c144 : zH → Int32 → Int32 → Int32 → Int32 → Option (zH × Int32)} (h144 : ∀ σ L st r, gl_X11_some_144 c144 σ L st = some r → zGW X 168 krI 144 σ L st r) : ∀ σ L st r, gl_X11_some_204 (j_X11_some_204 c144) σ L st = some r → zGW X 168 krI 204 σ L st r := by
  intro σ L st r h
  unfold gl_X11_some_204 at h
  split at h
  · exact zin_ok (hy_X11_some hX) bk_X11_some (fun t f hf => by
    by_cases e205 : t = 205
    · rw [if_pos e205] at hf; subst e205; cases hf; exact (s_X11_some_205 hX h144)
    rw [if_neg e205] at hf
    cases hf) ((e_X11_some_204 _ _ _ _ _ _ _).symm.trans h)
  · cases h
noncomputable def k_X11_some_144  : Nat → zH → Int32 → Int32 → Int32 → Int32 → Option (zH × Int32)
  | 0, _, _, _, _, _ => none
  | n + 1, σ, x1, x2, x4, x5 =>
    ix x1 6 fun j1 =>
    if x5 < (((12 : Int32) * x1) + (σ.1 73 0 j1)) then
      if x4 = 0 then
        ix x5 72 fun j2 =>
        if (σ.1 74 0 j2) = x2 then
          ix x5 72 fun j3 =>
          ix x5 72 fun j4 =>
          (d_X11_answer σ x1 (σ.1 75 0 j3) (σ.1 76 0 j4)).bind fun p5 =>
          if (lg_cmp p5.2 (1 : Int64)) = 0 then
            (j_X11_some_205 (k_X11_some_144 n)) p5.1 x1 x2 x5 (1 : Int32)
          else
            (j_X11_some_204 (k_X11_some_144 n)) p5.1 x1 x2 x5
        else
          (j_X11_some_204 (k_X11_some_144 n)) σ x1 x2 x5
      else
        tv x4 <| some (σ, x4)
    else
      tv x4 <| some (σ, x4)
theorem e_X11_some_144  (n : Nat) (σ : zH) (x1 : Int32) (x2 : Int32) (x4 : Int32) (x5 : Int32) (y3 : zAV) : k_X11_some_144 (n + 1) σ x1 x2 x4 x5 = zin cc_X11_some (fun t => if t = 204 then some (gl_X11_some_204 (j_X11_some_204 (k_X11_some_144 n))) else if t = 205 then some (gl_X11_some_205 (j_X11_some_205 (k_X11_some_144 n))) else none) 1 krI b_X11_some 144 σ [vR 11 0, vI x1, vI x2, y3, vI x4, vI x5] [] := by
  rw [k_X11_some_144]
  refine Eq.symm ((zin_b (es := q_X11_some_144) rfl).trans ?_)
  refine (t_X11_some_144 _ _ _ _ _ _ _ _).trans ?_
  refine (x_iald (N := 6) rfl rfl).trans (pix fun _ => ?_)
  refine (t_X11_some_156 _ _ _ _ _ _ _ _ _ _).trans ?_
  refine x_icmp.trans (pif_ge ?_ ?_)
  · refine (zrun_b (es := q_X11_some_213) rfl rfl).trans ?_
    refine (t_X11_some_213 _ _ _ _ _ _ _ _).trans ?_
    exact x_zret
  · refine (t_X11_some_160 _ _ _ _ _ _ _).trans ?_
    refine x_if.trans (pif_ne ?_ ?_)
    · refine (zrun_b (es := q_X11_some_213) rfl rfl).trans ?_
      refine (t_X11_some_213 _ _ _ _ _ _ _ _).trans ?_
      exact x_zret
    · refine (t_X11_some_165 _ _ _ _ _ _ _).trans ?_
      refine (x_iald (N := 72) rfl rfl).trans (pix fun _ => ?_)
      refine (t_X11_some_172 _ _ _ _ _ _ _ _).trans ?_
      refine x_icmp.trans (pif_ne ?_ ?_)
      · exact (zrun_c rfl).trans (glr_X11_some_204 _ _ _ _ _ _ _)
      · refine (t_X11_some_176 _ _ _ _ _ _ _).trans ?_
        refine (x_iald (N := 72) rfl rfl).trans (pix fun _ => ?_)
        refine (t_X11_some_185 _ _ _ _ _ _ _ _ _).trans ?_
        refine (x_iald (N := 72) rfl rfl).trans (pix fun _ => ?_)
        refine (x_callV rfl rfl rfl rfl).trans ((cl_X11_some_X11_answer _ _ _).trans ((gr_X11_answer _ _ _ _ _).trans (pbd fun _ => ?_)))
        refine (t_X11_some_195 _ _ _ _ _ _ _ _ _).trans ?_
        refine x_if.trans (pif_ne ?_ ?_)
        · exact (zrun_c rfl).trans (glr_X11_some_204 _ _ _ _ _ _ _)
        · refine (t_X11_some_200 _ _ _ _ _ _ _ _).trans ?_
          refine x_goto.trans ?_
          exact (zrun_c rfl).trans (glr_X11_some_205 _ _ _ _ _ _ _ _)
theorem s_X11_some_144 {X : zX} (hX : zHX X)   : ∀ n σ L st r, gl_X11_some_144 (k_X11_some_144 n) σ L st = some r → zGW X 168 krI 144 σ L st r := by
  intro n
  induction n with
  | zero =>
    intro σ L st r h
    unfold gl_X11_some_144 at h
    split at h <;> cases h
  | succ n ih =>
    intro σ L st r h
    unfold gl_X11_some_144 at h
    split at h
    · exact zin_ok (hy_X11_some hX) bk_X11_some (fun t f hf => by
      by_cases e204 : t = 204
      · rw [if_pos e204] at hf; subst e204; cases hf; exact (s_X11_some_204 hX ih)
      rw [if_neg e204] at hf
      by_cases e205 : t = 205
      · rw [if_pos e205] at hf; subst e205; cases hf; exact (s_X11_some_205 hX ih)
      rw [if_neg e205] at hf
      cases hf) ((e_X11_some_144 _ _ _ _ _ _ _).symm.trans h)
    · cases h
noncomputable def d_X11_some (σ : zH) (xa1 : Int32) (xa2 : Int32) (xa3 : Int32) : Option (zH × Int32) :=
  zlet (uL σ 78 0 0 (((σ.1 42 0 4) - (σ.1 42 0 4) / (96 : Int32) * (96 : Int32)).toInt64)) fun σ1 =>
  zlet (uL σ1 78 0 1 (((σ1.1 42 0 4) / (96 : Int32)).toInt64)) fun σ2 =>
  ix xa3 12 fun j3 =>
  zlet (uL σ2 78 0 2 ((σ2.1 63 0 j3).toInt64)) fun σ4 =>
  ix xa3 12 fun j5 =>
  zlet (uL σ4 78 0 3 ((σ4.1 64 0 j5).toInt64)) fun σ6 =>
  zlet (uL σ6 78 0 4 xa3.toInt64) fun σ7 =>
  ix xa3 12 fun j8 =>
  zlet (uL σ7 78 0 5 ((σ7.1 43 0 j8).toInt64)) fun σ9 =>
  ix xa3 12 fun j10 =>
  zlet (uL σ9 78 0 6 ((σ9.1 44 0 j10).toInt64)) fun σ11 =>
  (d_X11_upSet σ11).bind fun p12 =>
  (d_X11_menOf p12.1 p12.2).bind fun p13 =>
  zlet (uL p13.1 78 0 7 p13.2.toInt64) fun σ14 =>
  (d_X11_toneNow σ14).bind fun p15 =>
  zlet (uL p15.1 78 0 8 p15.2.toInt64) fun σ16 =>
  ix xa3 12 fun j17 =>
  zlet (uL σ16 78 0 9 ((σ16.1 46 0 j17).toInt64)) fun σ18 =>
  (k_X11_some_144 zN) σ18 xa1 xa2 (0 : Int32) ((12 : Int32) * xa1)
theorem e_X11_some (σ : zH) (xa1 : Int32) (xa2 : Int32) (xa3 : Int32) : d_X11_some σ xa1 xa2 xa3 = zin cc_X11_some (fun t => if t = 144 then some (gl_X11_some_144 (k_X11_some_144 zN)) else none) 1 krI b_X11_some 0 σ [vR 11 0, vI xa1, vI xa2, vI xa3, vU, vU] [] := by
  unfold d_X11_some
  refine Eq.symm ((zin_b (es := q_X11_some_0) rfl).trans ?_)
  refine (t_X11_some_0 _ _ _ _ _ _ _ _ _).trans ?_
  refine ((x_iald (N := 11) rfl rfl).trans (ix_l 4 (by decide +kernel))).trans ?_
  refine (t_X11_some_11 _ _ _ _ _ _ _ _ _ _).trans ?_
  refine (x_irem.trans (nz_l (by decide +kernel))).trans ?_
  refine (t_X11_some_14 _ _ _ _ _ _ _ _ _).trans ?_
  refine (x_last (N := 10) rfl rfl).trans ((ix_l 0 (by decide +kernel)).trans (plt fun _ => ?_))
  refine (t_X11_some_16 _ _ _ _ _ _ _ _ _).trans ?_
  refine ((x_iald (N := 11) rfl rfl).trans (ix_l 4 (by decide +kernel))).trans ?_
  refine (t_X11_some_27 _ _ _ _ _ _ _ _ _ _).trans ?_
  refine (x_idiv.trans (nz_l (by decide +kernel))).trans ?_
  refine (t_X11_some_30 _ _ _ _ _ _ _ _ _).trans ?_
  refine (x_last (N := 10) rfl rfl).trans ((ix_l 1 (by decide +kernel)).trans (plt fun _ => ?_))
  refine (t_X11_some_32 _ _ _ _ _ _ _ _).trans ?_
  refine (x_iald (N := 12) rfl rfl).trans (pix fun _ => ?_)
  refine (t_X11_some_43 _ _ _ _ _ _ _ _ _).trans ?_
  refine (x_last (N := 10) rfl rfl).trans ((ix_l 2 (by decide +kernel)).trans (plt fun _ => ?_))
  refine (t_X11_some_45 _ _ _ _ _ _ _ _).trans ?_
  refine (x_iald (N := 12) rfl rfl).trans (pix fun _ => ?_)
  refine (t_X11_some_56 _ _ _ _ _ _ _ _ _).trans ?_
  refine (x_last (N := 10) rfl rfl).trans ((ix_l 3 (by decide +kernel)).trans (plt fun _ => ?_))
  refine (t_X11_some_58 _ _ _ _ _ _ _ _).trans ?_
  refine (x_last (N := 10) rfl rfl).trans ((ix_l 4 (by decide +kernel)).trans (plt fun _ => ?_))
  refine (t_X11_some_66 _ _ _ _ _ _ _ _).trans ?_
  refine (x_iald (N := 12) rfl rfl).trans (pix fun _ => ?_)
  refine (t_X11_some_77 _ _ _ _ _ _ _ _ _).trans ?_
  refine (x_last (N := 10) rfl rfl).trans ((ix_l 5 (by decide +kernel)).trans (plt fun _ => ?_))
  refine (t_X11_some_79 _ _ _ _ _ _ _ _).trans ?_
  refine (x_iald (N := 12) rfl rfl).trans (pix fun _ => ?_)
  refine (t_X11_some_91 _ _ _ _ _ _ _ _ _).trans ?_
  refine (x_last (N := 10) rfl rfl).trans ((ix_l 6 (by decide +kernel)).trans (plt fun _ => ?_))
  refine (t_X11_some_93 _ _ _ _ _ _ _ _).trans ?_
  refine (x_callV rfl rfl rfl rfl).trans ((cl_X11_some_X11_upSet _ _ _).trans ((gr_X11_upSet _ _).trans (pbd fun _ => ?_)))
  refine (x_callV rfl rfl rfl rfl).trans ((cl_X11_some_X11_menOf _ _ _).trans ((gr_X11_menOf _ _ _).trans (pbd fun _ => ?_)))
  refine (t_X11_some_107 _ _ _ _ _ _ _ _ _).trans ?_
  refine (x_last (N := 10) rfl rfl).trans ((ix_l 7 (by decide +kernel)).trans (plt fun _ => ?_))
  refine (t_X11_some_109 _ _ _ _ _ _ _ _).trans ?_
  refine (x_callV rfl rfl rfl rfl).trans ((cl_X11_some_X11_toneNow _ _ _).trans ((gr_X11_toneNow _ _).trans (pbd fun _ => ?_)))
  refine (t_X11_some_119 _ _ _ _ _ _ _ _ _).trans ?_
  refine (x_last (N := 10) rfl rfl).trans ((ix_l 8 (by decide +kernel)).trans (plt fun _ => ?_))
  refine (t_X11_some_121 _ _ _ _ _ _ _ _).trans ?_
  refine (x_iald (N := 12) rfl rfl).trans (pix fun _ => ?_)
  refine (t_X11_some_133 _ _ _ _ _ _ _ _ _).trans ?_
  refine (x_last (N := 10) rfl rfl).trans ((ix_l 9 (by decide +kernel)).trans (plt fun _ => ?_))
  refine (t_X11_some_135 _ _ _ _ _ _ _ _ _).trans ?_
  refine x_cut.trans ?_
  exact (zrun_c rfl).trans (glr_X11_some_144 _ _ _ _ _ _ _)
noncomputable def g_X11_some {ρ : Type} (σ : zH) (av : List zAV) (q : zH → zAV → Option ρ) : Option ρ := match av with
  | [.inr (.inr (.inl (11, 0))), .inl xa1, .inl xa2, .inl xa3] => (d_X11_some σ xa1 xa2 xa3).bind fun p => q p.1 (vI p.2)
  | _ => none
theorem gr_X11_some {ρ : Type} (σ : zH) (xa1 : Int32) (xa2 : Int32) (xa3 : Int32) (q : zH → zAV → Option ρ) : g_X11_some σ [vR 11 0, vI xa1, vI xa2, vI xa3] q = (d_X11_some σ xa1 xa2 xa3).bind fun p => q p.1 (vI p.2) := rfl
theorem c_X11_some {ρ : Type} {X : zX} (hX : zHX X) {σ : zH} {av : List zAV} {q : zH → zAV → Option ρ} {r : ρ} (h : g_X11_some σ av q = some r) (hv : ∀ a ∈ av, zval X a) : zcon X 168 σ av q r := by
  unfold g_X11_some at h
  split at h
  · exact zcon_I (n := 168) (ml := 6) (rc := 1) (st := 0) (kd := 11) (np := 3) (by decide +kernel) (by decide) ⟨_, _, rfl, rfl⟩ (Nat.le_of_ble_eq_true rfl) hv h (fun y h1 => (zin_ok (hy_X11_some hX) bk_X11_some (fun t f hf => by
      by_cases e144 : t = 144
      · rw [if_pos e144] at hf; subst e144; cases hf; exact ((fun σ L st r h => s_X11_some_144 hX  zN σ L st r h))
      rw [if_neg e144] at hf
      cases hf) ((e_X11_some _ _ _ _).symm.trans h1)))
  · cases h
/-! SleepWavesModel.isFree(I)Z -/
def q_X11_isFree_0 : List zEnt := zEk 0 (.iconst 1) 1 1 :: zE 1 (.istore_n 2) 1 :: zEk 2 (.iconst 0) 1 0 :: zE 3 (.istore_n 3) 1 :: [zE 4 .nop 0]
def q_X11_isFree_44 : List zEnt := zEa 44 (.ifCond .ne 7) 3 51 :: [zE 47 .nop 0]
def q_X11_isFree_43 : List zEnt := zE 43 .iaload 1 :: q_X11_isFree_44
def q_X11_isFree_38 : List zEnt := zE 38 (.aload_n 0) 1 :: zEf 39 (.getfield 70) 3 11 21 169 (2, 62, 0) :: zE 42 (.iload_n 3) 1 :: q_X11_isFree_43
def q_X11_isFree_35 : List zEnt := zEa 35 (.if_icmp .ne 12) 3 47 :: q_X11_isFree_38
def q_X11_isFree_34 : List zEnt := zE 34 .iaload 1 :: q_X11_isFree_35
def q_X11_isFree_29 : List zEnt := zE 29 (.aload_n 0) 1 :: zEf 30 (.getfield 19) 3 11 4 152 (2, 45, 0) :: zE 33 (.iload_n 1) 1 :: q_X11_isFree_34
def q_X11_isFree_28 : List zEnt := zE 28 .iaload 1 :: q_X11_isFree_29
def q_X11_isFree_23 : List zEnt := zE 23 (.aload_n 0) 1 :: zEf 24 (.getfield 19) 3 11 4 152 (2, 45, 0) :: zE 27 (.iload_n 3) 1 :: q_X11_isFree_28
def q_X11_isFree_20 : List zEnt := zEa 20 (.if_icmp .eq 27) 3 47 :: q_X11_isFree_23
def q_X11_isFree_18 : List zEnt := zE 18 (.iload_n 3) 1 :: zE 19 (.iload_n 1) 1 :: q_X11_isFree_20
def q_X11_isFree_15 : List zEnt := zEa 15 (.ifCond .eq 36) 3 51 :: q_X11_isFree_18
def q_X11_isFree_14 : List zEnt := zE 14 (.iload_n 2) 1 :: q_X11_isFree_15
def q_X11_isFree_11 : List zEnt := zEa 11 (.if_icmp .ge 48) 3 59 :: q_X11_isFree_14
def q_X11_isFree_10 : List zEnt := zE 10 .iaload 1 :: q_X11_isFree_11
def q_X11_isFree_4 : List zEnt := zE 4 (.iload_n 3) 1 :: zE 5 (.aload_n 0) 1 :: zEf 6 (.getfield 7) 3 11 1 149 (2, 42, 0) :: zEk 9 (.iconst 0) 1 0 :: q_X11_isFree_10
def q_X11_isFree_48 : List zEnt := zEa 48 (.goto 4) 3 52 :: []
def q_X11_isFree_47 : List zEnt := zEk 47 (.iconst 1) 1 1 :: q_X11_isFree_48
def q_X11_isFree_51 : List zEnt := zEk 51 (.iconst 0) 1 0 :: [zE 52 .nop 0]
def q_X11_isFree_56 : List zEnt := zEa 56 (.goto (-52)) 3 4 :: []
def q_X11_isFree_52 : List zEnt := zE 52 (.istore_n 2) 1 :: zEk 53 (.iinc 3 1) 3 1 :: q_X11_isFree_56
def q_X11_isFree_60 : List zEnt := zE 60 .ireturn 1 :: []
def q_X11_isFree_59 : List zEnt := zE 59 (.iload_n 2) 1 :: q_X11_isFree_60
def b_X11_isFree : List (Nat × List zEnt) := [(0, q_X11_isFree_0), (4, q_X11_isFree_4), (47, q_X11_isFree_47), (51, q_X11_isFree_51), (52, q_X11_isFree_52), (59, q_X11_isFree_59)]
theorem bk_X11_isFree : zchB 169 b_X11_isFree = true := by decide +kernel
theorem hy_X11_isFree {ρ : Type} {X : zX} (hX : zHX X) : zHY X 169 (zc0 (ρ := ρ)) := zHX.hY hX (zc0_ok X) (zmok_all 169 (by decide))
def gl_X11_isFree_4 {ρ : Type} (f : zH → Int32 → Int32 → Int32 → Option ρ) (σ : zH) (L st : List zAV) : Option ρ := match L, st with
  | [.inr (.inr (.inl (11, 0))), .inl x1, .inl x2, .inl x3], [] => f σ x1 x2 x3
  | _, _ => none
def gl_X11_isFree_47 {ρ : Type} (f : zH → Int32 → Int32 → Option ρ) (σ : zH) (L st : List zAV) : Option ρ := match L, st with
  | [.inr (.inr (.inl (11, 0))), .inl x1, _, .inl x3], [] => f σ x1 x3
  | _, _ => none
def gl_X11_isFree_51 {ρ : Type} (f : zH → Int32 → Int32 → Option ρ) (σ : zH) (L st : List zAV) : Option ρ := match L, st with
  | [.inr (.inr (.inl (11, 0))), .inl x1, _, .inl x3], [] => f σ x1 x3
  | _, _ => none
def gl_X11_isFree_52 {ρ : Type} (f : zH → Int32 → Int32 → Int32 → Option ρ) (σ : zH) (L st : List zAV) : Option ρ := match L, st with
  | [.inr (.inr (.inl (11, 0))), .inl x1, _, .inl x3], [.inl xs0] => f σ x1 x3 xs0
  | _, _ => none
theorem glr_X11_isFree_4 {ρ : Type} (f : zH → Int32 → Int32 → Int32 → Option ρ) (σ : zH) (x1 : Int32) (x2 : Int32) (x3 : Int32)  : gl_X11_isFree_4 f σ [vR 11 0, vI x1, vI x2, vI x3] [] = f σ x1 x2 x3 := rfl
theorem glr_X11_isFree_47 {ρ : Type} (f : zH → Int32 → Int32 → Option ρ) (σ : zH) (x1 : Int32) (x3 : Int32) (y2 : zAV) : gl_X11_isFree_47 f σ [vR 11 0, vI x1, y2, vI x3] [] = f σ x1 x3 := rfl
theorem glr_X11_isFree_51 {ρ : Type} (f : zH → Int32 → Int32 → Option ρ) (σ : zH) (x1 : Int32) (x3 : Int32) (y2 : zAV) : gl_X11_isFree_51 f σ [vR 11 0, vI x1, y2, vI x3] [] = f σ x1 x3 := rfl
theorem glr_X11_isFree_52 {ρ : Type} (f : zH → Int32 → Int32 → Int32 → Option ρ) (σ : zH) (x1 : Int32) (x3 : Int32) (xs0 : Int32) (y2 : zAV) : gl_X11_isFree_52 f σ [vR 11 0, vI x1, y2, vI x3] [vI xs0] = f σ x1 x3 xs0 := rfl
theorem t_X11_isFree_0 {G : Nat → zH → List zAV → List zAV → Option (zH × Int32)} (es : List zEnt) (σ : zH) (x1 : Int32) (y2 : zAV) (y3 : zAV) (w0 : Int32) (w2 : Int32) : zev zc0 G 1 krI (zEk 0 (.iconst 1) 1 w0 :: zE 1 (.istore_n 2) 1 :: zEk 2 (.iconst 0) 1 w2 :: zE 3 (.istore_n 3) 1 :: es) σ [vR 11 0, vI x1, y2, y3] [] = zev zc0 G 1 krI es σ [vR 11 0, vI x1, vI w0, vI w2] [] := rfl
theorem t_X11_isFree_4 {G : Nat → zH → List zAV → List zAV → Option (zH × Int32)} (es : List zEnt) (σ : zH) (x1 : Int32) (x2 : Int32) (x3 : Int32)  (w9 : Int32) : zev zc0 G 1 krI (zE 4 (.iload_n 3) 1 :: zE 5 (.aload_n 0) 1 :: zEf 6 (.getfield 7) 3 11 1 149 (2, 42, 0) :: zEk 9 (.iconst 0) 1 w9 :: es) σ [vR 11 0, vI x1, vI x2, vI x3] [] = zev zc0 G 1 krI es σ [vR 11 0, vI x1, vI x2, vI x3] [vI w9, vR 42 0, vI x3] := rfl
theorem t_X11_isFree_14 {G : Nat → zH → List zAV → List zAV → Option (zH × Int32)} (es : List zEnt) (σ : zH) (x1 : Int32) (x2 : Int32) (x3 : Int32)   : zev zc0 G 1 krI (zE 14 (.iload_n 2) 1 :: es) σ [vR 11 0, vI x1, vI x2, vI x3] [] = zev zc0 G 1 krI es σ [vR 11 0, vI x1, vI x2, vI x3] [vI x2] := rfl
theorem t_X11_isFree_18 {G : Nat → zH → List zAV → List zAV → Option (zH × Int32)} (es : List zEnt) (σ : zH) (x1 : Int32) (x3 : Int32) (y2 : zAV)  : zev zc0 G 1 krI (zE 18 (.iload_n 3) 1 :: zE 19 (.iload_n 1) 1 :: es) σ [vR 11 0, vI x1, y2, vI x3] [] = zev zc0 G 1 krI es σ [vR 11 0, vI x1, y2, vI x3] [vI x1, vI x3] := rfl
theorem t_X11_isFree_23 {G : Nat → zH → List zAV → List zAV → Option (zH × Int32)} (es : List zEnt) (σ : zH) (x1 : Int32) (x3 : Int32) (y2 : zAV)  : zev zc0 G 1 krI (zE 23 (.aload_n 0) 1 :: zEf 24 (.getfield 19) 3 11 4 152 (2, 45, 0) :: zE 27 (.iload_n 3) 1 :: es) σ [vR 11 0, vI x1, y2, vI x3] [] = zev zc0 G 1 krI es σ [vR 11 0, vI x1, y2, vI x3] [vI x3, vR 45 0] := rfl
theorem t_X11_isFree_29 {G : Nat → zH → List zAV → List zAV → Option (zH × Int32)} (es : List zEnt) (σ : zH) (x1 : Int32) (x3 : Int32) (xs0 : Int32) (y2 : zAV)  : zev zc0 G 1 krI (zE 29 (.aload_n 0) 1 :: zEf 30 (.getfield 19) 3 11 4 152 (2, 45, 0) :: zE 33 (.iload_n 1) 1 :: es) σ [vR 11 0, vI x1, y2, vI x3] [vI xs0] = zev zc0 G 1 krI es σ [vR 11 0, vI x1, y2, vI x3] [vI x1, vR 45 0, vI xs0] := rfl
theorem t_X11_isFree_38 {G : Nat → zH → List zAV → List zAV → Option (zH × Int32)} (es : List zEnt) (σ : zH) (x1 : Int32) (x3 : Int32) (y2 : zAV)  : zev zc0 G 1 krI (zE 38 (.aload_n 0) 1 :: zEf 39 (.getfield 70) 3 11 21 169 (2, 62, 0) :: zE 42 (.iload_n 3) 1 :: es) σ [vR 11 0, vI x1, y2, vI x3] [] = zev zc0 G 1 krI es σ [vR 11 0, vI x1, y2, vI x3] [vI x3, vR 62 0] := rfl
theorem t_X11_isFree_47 {G : Nat → zH → List zAV → List zAV → Option (zH × Int32)} (es : List zEnt) (σ : zH) (x1 : Int32) (x3 : Int32) (y2 : zAV) (w47 : Int32) : zev zc0 G 1 krI (zEk 47 (.iconst 1) 1 w47 :: es) σ [vR 11 0, vI x1, y2, vI x3] [] = zev zc0 G 1 krI es σ [vR 11 0, vI x1, y2, vI x3] [vI w47] := rfl
theorem t_X11_isFree_51 {G : Nat → zH → List zAV → List zAV → Option (zH × Int32)} (es : List zEnt) (σ : zH) (x1 : Int32) (x3 : Int32) (y2 : zAV) (w51 : Int32) : zev zc0 G 1 krI (zEk 51 (.iconst 0) 1 w51 :: es) σ [vR 11 0, vI x1, y2, vI x3] [] = zev zc0 G 1 krI es σ [vR 11 0, vI x1, y2, vI x3] [vI w51] := rfl
theorem t_X11_isFree_52 {G : Nat → zH → List zAV → List zAV → Option (zH × Int32)} (es : List zEnt) (σ : zH) (x1 : Int32) (x3 : Int32) (xs0 : Int32) (y2 : zAV) (w53 : Int32) : zev zc0 G 1 krI (zE 52 (.istore_n 2) 1 :: zEk 53 (.iinc 3 1) 3 w53 :: es) σ [vR 11 0, vI x1, y2, vI x3] [vI xs0] = zev zc0 G 1 krI es σ [vR 11 0, vI x1, vI xs0, vI (x3 + w53)] [] := rfl
theorem t_X11_isFree_59 {G : Nat → zH → List zAV → List zAV → Option (zH × Int32)} (es : List zEnt) (σ : zH) (x2 : Int32) (y0 : zAV) (y1 : zAV) (y3 : zAV)  : zev zc0 G 1 krI (zE 59 (.iload_n 2) 1 :: es) σ [y0, y1, vI x2, y3] [] = zev zc0 G 1 krI es σ [y0, y1, vI x2, y3] [vI x2] := rfl
noncomputable def j_X11_isFree_52 (c4 : zH → Int32 → Int32 → Int32 → Option (zH × Int32)) (σ : zH) (x1 : Int32) (x3 : Int32) (xs0 : Int32) : Option (zH × Int32) :=
  c4 σ x1 xs0 (x3 + (1 : Int32))
theorem e_X11_isFree_52 (c4 : zH → Int32 → Int32 → Int32 → Option (zH × Int32)) (σ : zH) (x1 : Int32) (x3 : Int32) (xs0 : Int32) (y2 : zAV) : j_X11_isFree_52 c4 σ x1 x3 xs0 = zin zc0 (fun t => if t = 4 then some (gl_X11_isFree_4 c4) else none) 1 krI b_X11_isFree 52 σ [vR 11 0, vI x1, y2, vI x3] [vI xs0] := by
  unfold j_X11_isFree_52
  refine Eq.symm ((zin_b (es := q_X11_isFree_52) rfl).trans ?_)
  refine (t_X11_isFree_52 _ _ _ _ _ _ _).trans ?_
  refine x_goto.trans ?_
  exact (zrun_c rfl).trans (glr_X11_isFree_4 _ _ _ _ _)
theorem s_X11_isFree_52 {X : zX} (hX : zHX X) {c4 : zH → Int32 → Int32 → Int32 → Option (zH × Int32)} (h4 : ∀ σ L st r, gl_X11_isFree_4 c4 σ L st = some r → zGW X 169 krI 4 σ L st r) : ∀ σ L st r, gl_X11_isFree_52 (j_X11_isFree_52 c4) σ L st = some r → zGW X 169 krI 52 σ L st r := by
  intro σ L st r h
  unfold gl_X11_isFree_52 at h
  split at h
  · exact zin_ok (hy_X11_isFree hX) bk_X11_isFree (fun t f hf => by
    by_cases e4 : t = 4
    · rw [if_pos e4] at hf; subst e4; cases hf; exact h4
    rw [if_neg e4] at hf
    cases hf) ((e_X11_isFree_52 _ _ _ _ _ _).symm.trans h)
  · cases h
noncomputable def j_X11_isFree_47 (c4 : zH → Int32 → Int32 → Int32 → Option (zH × Int32)) (σ : zH) (x1 : Int32) (x3 : Int32) : Option (zH × Int32) :=
  (j_X11_isFree_52 c4) σ x1 x3 (1 : Int32)
theorem e_X11_isFree_47 (c4 : zH → Int32 → Int32 → Int32 → Option (zH × Int32)) (σ : zH) (x1 : Int32) (x3 : Int32) (y2 : zAV) : j_X11_isFree_47 c4 σ x1 x3 = zin zc0 (fun t => if t = 52 then some (gl_X11_isFree_52 (j_X11_isFree_52 c4)) else none) 1 krI b_X11_isFree 47 σ [vR 11 0, vI x1, y2, vI x3] [] := by
  unfold j_X11_isFree_47
  refine Eq.symm ((zin_b (es := q_X11_isFree_47) rfl).trans ?_)
  refine (t_X11_isFree_47 _ _ _ _ _ _).trans ?_
  refine x_goto.trans ?_
  exact (zrun_c rfl).trans (glr_X11_isFree_52 _ _ _ _ _ _)
theorem s_X11_isFree_47 {X : zX} (hX : zHX X) {c4 : zH → Int32 → Int32 → Int32 → Option (zH × Int32)} (h4 : ∀ σ L st r, gl_X11_isFree_4 c4 σ L st = some r → zGW X 169 krI 4 σ L st r) : ∀ σ L st r, gl_X11_isFree_47 (j_X11_isFree_47 c4) σ L st = some r → zGW X 169 krI 47 σ L st r := by
  intro σ L st r h
  unfold gl_X11_isFree_47 at h
  split at h
  · exact zin_ok (hy_X11_isFree hX) bk_X11_isFree (fun t f hf => by
    by_cases e52 : t = 52
    · rw [if_pos e52] at hf; subst e52; cases hf; exact (s_X11_isFree_52 hX h4)
    rw [if_neg e52] at hf
    cases hf) ((e_X11_isFree_47 _ _ _ _ _).symm.trans h)
  · cases h
noncomputable def j_X11_isFree_51 (c4 : zH → Int32 → Int32 → Int32 → Option (zH × Int32)) (σ : zH) (x1 : Int32) (x3 : Int32) : Option (zH × Int32) :=
  (j_X11_isFree_52 c4) σ x1 x3 (0 : Int32)
theorem e_X11_isFree_51 (c4 : zH → Int32 → Int32 → Int32 → Option (zH × Int32)) (σ : zH) (x1 : Int32) (x3 : Int32) (y2 : zAV) : j_X11_isFree_51 c4 σ x1 x3 = zin zc0 (fun t => if t = 52 then some (gl_X11_isFree_52 (j_X11_isFree_52 c4)) else none) 1 krI b_X11_isFree 51 σ [vR 11 0, vI x1, y2, vI x3] [] := by
  unfold j_X11_isFree_51
  refine Eq.symm ((zin_b (es := q_X11_isFree_51) rfl).trans ?_)
  refine (t_X11_isFree_51 _ _ _ _ _ _).trans ?_
  refine x_cut.trans ?_
  exact (zrun_c rfl).trans (glr_X11_isFree_52 _ _ _ _ _ _)
theorem s_X11_isFree_51 {X : zX} (hX : zHX X) {c4 : zH → Int32 → Int32 → Int32 → Option (zH × Int32)} (h4 : ∀ σ L st r, gl_X11_isFree_4 c4 σ L st = some r → zGW X 169 krI 4 σ L st r) : ∀ σ L st r, gl_X11_isFree_51 (j_X11_isFree_51 c4) σ L st = some r → zGW X 169 krI 51 σ L st r := by
  intro σ L st r h
  unfold gl_X11_isFree_51 at h
  split at h
  · exact zin_ok (hy_X11_isFree hX) bk_X11_isFree (fun t f hf => by
    by_cases e52 : t = 52
    · rw [if_pos e52] at hf; subst e52; cases hf; exact (s_X11_isFree_52 hX h4)
    rw [if_neg e52] at hf
    cases hf) ((e_X11_isFree_51 _ _ _ _ _).symm.trans h)
  · cases h
noncomputable def k_X11_isFree_4  : Nat → zH → Int32 → Int32 → Int32 → Option (zH × Int32)
  | 0, _, _, _, _ => none
  | n + 1, σ, x1, x2, x3 =>
    if x3 < (σ.1 42 0 0) then
      if x2 = 0 then
        (j_X11_isFree_51 (k_X11_isFree_4 n)) σ x1 x3
      else
        if x3 = x1 then
          (j_X11_isFree_47 (k_X11_isFree_4 n)) σ x1 x3
        else
          ix x3 12 fun j1 =>
          ix x1 12 fun j2 =>
          if (σ.1 45 0 j1) = (σ.1 45 0 j2) then
            ix x3 12 fun j3 =>
            if (σ.1 62 0 j3) = 0 then
              (j_X11_isFree_47 (k_X11_isFree_4 n)) σ x1 x3
            else
              (j_X11_isFree_51 (k_X11_isFree_4 n)) σ x1 x3
          else
            (j_X11_isFree_47 (k_X11_isFree_4 n)) σ x1 x3
    else
      tv x2 <| some (σ, x2)
theorem e_X11_isFree_4  (n : Nat) (σ : zH) (x1 : Int32) (x2 : Int32) (x3 : Int32)  : k_X11_isFree_4 (n + 1) σ x1 x2 x3 = zin zc0 (fun t => if t = 47 then some (gl_X11_isFree_47 (j_X11_isFree_47 (k_X11_isFree_4 n))) else if t = 51 then some (gl_X11_isFree_51 (j_X11_isFree_51 (k_X11_isFree_4 n))) else none) 1 krI b_X11_isFree 4 σ [vR 11 0, vI x1, vI x2, vI x3] [] := by
  rw [k_X11_isFree_4]
  refine Eq.symm ((zin_b (es := q_X11_isFree_4) rfl).trans ?_)
  refine (t_X11_isFree_4 _ _ _ _ _ _).trans ?_
  refine ((x_iald (N := 11) rfl rfl).trans (ix_l 0 (by decide +kernel))).trans ?_
  refine x_icmp.trans (pif_ge ?_ ?_)
  · refine (zrun_b (es := q_X11_isFree_59) rfl rfl).trans ?_
    refine (t_X11_isFree_59 _ _ _ _ _ _).trans ?_
    exact x_zret
  · refine (t_X11_isFree_14 _ _ _ _ _).trans ?_
    refine x_if.trans (pif_eq ?_ ?_)
    · exact (zrun_c rfl).trans (glr_X11_isFree_51 _ _ _ _ _)
    · refine (t_X11_isFree_18 _ _ _ _ _).trans ?_
      refine x_icmp.trans (pif_eq ?_ ?_)
      · exact (zrun_c rfl).trans (glr_X11_isFree_47 _ _ _ _ _)
      · refine (t_X11_isFree_23 _ _ _ _ _).trans ?_
        refine (x_iald (N := 12) rfl rfl).trans (pix fun _ => ?_)
        refine (t_X11_isFree_29 _ _ _ _ _ _).trans ?_
        refine (x_iald (N := 12) rfl rfl).trans (pix fun _ => ?_)
        refine x_icmp.trans (pif_ne ?_ ?_)
        · exact (zrun_c rfl).trans (glr_X11_isFree_47 _ _ _ _ _)
        · refine (t_X11_isFree_38 _ _ _ _ _).trans ?_
          refine (x_iald (N := 12) rfl rfl).trans (pix fun _ => ?_)
          refine x_if.trans (pif_ne ?_ ?_)
          · exact (zrun_c rfl).trans (glr_X11_isFree_51 _ _ _ _ _)
          · refine x_cut.trans ?_
            exact (zrun_c rfl).trans (glr_X11_isFree_47 _ _ _ _ _)
theorem s_X11_isFree_4 {X : zX} (hX : zHX X)   : ∀ n σ L st r, gl_X11_isFree_4 (k_X11_isFree_4 n) σ L st = some r → zGW X 169 krI 4 σ L st r := by
  intro n
  induction n with
  | zero =>
    intro σ L st r h
    unfold gl_X11_isFree_4 at h
    split at h <;> cases h
  | succ n ih =>
    intro σ L st r h
    unfold gl_X11_isFree_4 at h
    split at h
    · exact zin_ok (hy_X11_isFree hX) bk_X11_isFree (fun t f hf => by
      by_cases e47 : t = 47
      · rw [if_pos e47] at hf; subst e47; cases hf; exact (s_X11_isFree_47 hX ih)
      rw [if_neg e47] at hf
      by_cases e51 : t = 51
      · rw [if_pos e51] at hf; subst e51; cases hf; exact (s_X11_isFree_51 hX ih)
      rw [if_neg e51] at hf
      cases hf) ((e_X11_isFree_4 _ _ _ _ _).symm.trans h)
    · cases h
noncomputable def d_X11_isFree (σ : zH) (xa1 : Int32) : Option (zH × Int32) :=
  (k_X11_isFree_4 zN) σ xa1 (1 : Int32) (0 : Int32)
theorem e_X11_isFree (σ : zH) (xa1 : Int32) : d_X11_isFree σ xa1 = zin zc0 (fun t => if t = 4 then some (gl_X11_isFree_4 (k_X11_isFree_4 zN)) else none) 1 krI b_X11_isFree 0 σ [vR 11 0, vI xa1, vU, vU] [] := by
  unfold d_X11_isFree
  refine Eq.symm ((zin_b (es := q_X11_isFree_0) rfl).trans ?_)
  refine (t_X11_isFree_0 _ _ _ _ _ _ _).trans ?_
  refine x_cut.trans ?_
  exact (zrun_c rfl).trans (glr_X11_isFree_4 _ _ _ _ _)
noncomputable def g_X11_isFree {ρ : Type} (σ : zH) (av : List zAV) (q : zH → zAV → Option ρ) : Option ρ := match av with
  | [.inr (.inr (.inl (11, 0))), .inl xa1] => (d_X11_isFree σ xa1).bind fun p => q p.1 (vI p.2)
  | _ => none
theorem gr_X11_isFree {ρ : Type} (σ : zH) (xa1 : Int32) (q : zH → zAV → Option ρ) : g_X11_isFree σ [vR 11 0, vI xa1] q = (d_X11_isFree σ xa1).bind fun p => q p.1 (vI p.2) := rfl
theorem c_X11_isFree {ρ : Type} {X : zX} (hX : zHX X) {σ : zH} {av : List zAV} {q : zH → zAV → Option ρ} {r : ρ} (h : g_X11_isFree σ av q = some r) (hv : ∀ a ∈ av, zval X a) : zcon X 169 σ av q r := by
  unfold g_X11_isFree at h
  split at h
  · exact zcon_I (n := 169) (ml := 4) (rc := 1) (st := 0) (kd := 11) (np := 1) (by decide +kernel) (by decide) ⟨_, _, rfl, rfl⟩ (Nat.le_of_ble_eq_true rfl) hv h (fun y h1 => (zin_ok (hy_X11_isFree hX) bk_X11_isFree (fun t f hf => by
      by_cases e4 : t = 4
      · rw [if_pos e4] at hf; subst e4; cases hf; exact ((fun σ L st r h => s_X11_isFree_4 hX  zN σ L st r h))
      rw [if_neg e4] at hf
      cases hf) ((e_X11_isFree _ _).symm.trans h1)))
  · cases h
/-! SleepWavesModel.isWarm(I)Z -/
def q_X11_isWarm_0 : List zEnt := zEk 0 (.iconst 0) 1 0 :: zE 1 (.istore_n 2) 1 :: zEk 2 (.iconst 0) 1 0 :: zE 3 (.istore_n 3) 1 :: [zE 4 .nop 0]
def q_X11_isWarm_52 : List zEnt := zEa 52 (.if_icmp .le 7) 3 59 :: [zE 55 .nop 0]
def q_X11_isWarm_50 : List zEnt := zEk 50 (.iconst 4) 1 4 :: zE 51 .isub 1 :: q_X11_isWarm_52
def q_X11_isWarm_49 : List zEnt := zE 49 .iaload 1 :: q_X11_isWarm_50
def q_X11_isWarm_44 : List zEnt := zE 44 (.aload_n 0) 1 :: zEf 45 (.getfield 7) 3 11 1 149 (2, 42, 0) :: zEk 48 (.iconst 4) 1 4 :: q_X11_isWarm_49
def q_X11_isWarm_43 : List zEnt := zE 43 .iaload 1 :: q_X11_isWarm_44
def q_X11_isWarm_38 : List zEnt := zE 38 (.aload_n 0) 1 :: zEf 39 (.getfield 79) 3 11 24 172 (2, 65, 0) :: zE 42 (.iload_n 3) 1 :: q_X11_isWarm_43
def q_X11_isWarm_35 : List zEnt := zEa 35 (.if_icmp .ne 24) 3 59 :: q_X11_isWarm_38
def q_X11_isWarm_34 : List zEnt := zE 34 .iaload 1 :: q_X11_isWarm_35
def q_X11_isWarm_29 : List zEnt := zE 29 (.aload_n 0) 1 :: zEf 30 (.getfield 19) 3 11 4 152 (2, 45, 0) :: zE 33 (.iload_n 1) 1 :: q_X11_isWarm_34
def q_X11_isWarm_28 : List zEnt := zE 28 .iaload 1 :: q_X11_isWarm_29
def q_X11_isWarm_23 : List zEnt := zE 23 (.aload_n 0) 1 :: zEf 24 (.getfield 19) 3 11 4 152 (2, 45, 0) :: zE 27 (.iload_n 3) 1 :: q_X11_isWarm_28
def q_X11_isWarm_20 : List zEnt := zEa 20 (.if_icmp .eq 39) 3 59 :: q_X11_isWarm_23
def q_X11_isWarm_18 : List zEnt := zE 18 (.iload_n 3) 1 :: zE 19 (.iload_n 1) 1 :: q_X11_isWarm_20
def q_X11_isWarm_15 : List zEnt := zEa 15 (.ifCond .ne 40) 3 55 :: q_X11_isWarm_18
def q_X11_isWarm_14 : List zEnt := zE 14 (.iload_n 2) 1 :: q_X11_isWarm_15
def q_X11_isWarm_11 : List zEnt := zEa 11 (.if_icmp .ge 56) 3 67 :: q_X11_isWarm_14
def q_X11_isWarm_10 : List zEnt := zE 10 .iaload 1 :: q_X11_isWarm_11
def q_X11_isWarm_4 : List zEnt := zE 4 (.iload_n 3) 1 :: zE 5 (.aload_n 0) 1 :: zEf 6 (.getfield 7) 3 11 1 149 (2, 42, 0) :: zEk 9 (.iconst 0) 1 0 :: q_X11_isWarm_10
def q_X11_isWarm_56 : List zEnt := zEa 56 (.goto 4) 3 60 :: []
def q_X11_isWarm_55 : List zEnt := zEk 55 (.iconst 1) 1 1 :: q_X11_isWarm_56
def q_X11_isWarm_59 : List zEnt := zEk 59 (.iconst 0) 1 0 :: [zE 60 .nop 0]
def q_X11_isWarm_64 : List zEnt := zEa 64 (.goto (-60)) 3 4 :: []
def q_X11_isWarm_60 : List zEnt := zE 60 (.istore_n 2) 1 :: zEk 61 (.iinc 3 1) 3 1 :: q_X11_isWarm_64
def q_X11_isWarm_68 : List zEnt := zE 68 .ireturn 1 :: []
def q_X11_isWarm_67 : List zEnt := zE 67 (.iload_n 2) 1 :: q_X11_isWarm_68
def b_X11_isWarm : List (Nat × List zEnt) := [(0, q_X11_isWarm_0), (4, q_X11_isWarm_4), (55, q_X11_isWarm_55), (59, q_X11_isWarm_59), (60, q_X11_isWarm_60), (67, q_X11_isWarm_67)]
theorem bk_X11_isWarm : zchB 170 b_X11_isWarm = true := by decide +kernel
theorem hy_X11_isWarm {ρ : Type} {X : zX} (hX : zHX X) : zHY X 170 (zc0 (ρ := ρ)) := zHX.hY hX (zc0_ok X) (zmok_all 170 (by decide))
def gl_X11_isWarm_4 {ρ : Type} (f : zH → Int32 → Int32 → Int32 → Option ρ) (σ : zH) (L st : List zAV) : Option ρ := match L, st with
  | [.inr (.inr (.inl (11, 0))), .inl x1, .inl x2, .inl x3], [] => f σ x1 x2 x3
  | _, _ => none
def gl_X11_isWarm_55 {ρ : Type} (f : zH → Int32 → Int32 → Option ρ) (σ : zH) (L st : List zAV) : Option ρ := match L, st with
  | [.inr (.inr (.inl (11, 0))), .inl x1, _, .inl x3], [] => f σ x1 x3
  | _, _ => none
def gl_X11_isWarm_59 {ρ : Type} (f : zH → Int32 → Int32 → Option ρ) (σ : zH) (L st : List zAV) : Option ρ := match L, st with
  | [.inr (.inr (.inl (11, 0))), .inl x1, _, .inl x3], [] => f σ x1 x3
  | _, _ => none
def gl_X11_isWarm_60 {ρ : Type} (f : zH → Int32 → Int32 → Int32 → Option ρ) (σ : zH) (L st : List zAV) : Option ρ := match L, st with
  | [.inr (.inr (.inl (11, 0))), .inl x1, _, .inl x3], [.inl xs0] => f σ x1 x3 xs0
  | _, _ => none
theorem glr_X11_isWarm_4 {ρ : Type} (f : zH → Int32 → Int32 → Int32 → Option ρ) (σ : zH) (x1 : Int32) (x2 : Int32) (x3 : Int32)  : gl_X11_isWarm_4 f σ [vR 11 0, vI x1, vI x2, vI x3] [] = f σ x1 x2 x3 := rfl
theorem glr_X11_isWarm_55 {ρ : Type} (f : zH → Int32 → Int32 → Option ρ) (σ : zH) (x1 : Int32) (x3 : Int32) (y2 : zAV) : gl_X11_isWarm_55 f σ [vR 11 0, vI x1, y2, vI x3] [] = f σ x1 x3 := rfl
theorem glr_X11_isWarm_59 {ρ : Type} (f : zH → Int32 → Int32 → Option ρ) (σ : zH) (x1 : Int32) (x3 : Int32) (y2 : zAV) : gl_X11_isWarm_59 f σ [vR 11 0, vI x1, y2, vI x3] [] = f σ x1 x3 := rfl
theorem glr_X11_isWarm_60 {ρ : Type} (f : zH → Int32 → Int32 → Int32 → Option ρ) (σ : zH) (x1 : Int32) (x3 : Int32) (xs0 : Int32) (y2 : zAV) : gl_X11_isWarm_60 f σ [vR 11 0, vI x1, y2, vI x3] [vI xs0] = f σ x1 x3 xs0 := rfl
theorem t_X11_isWarm_0 {G : Nat → zH → List zAV → List zAV → Option (zH × Int32)} (es : List zEnt) (σ : zH) (x1 : Int32) (y2 : zAV) (y3 : zAV) (w0 : Int32) (w2 : Int32) : zev zc0 G 1 krI (zEk 0 (.iconst 0) 1 w0 :: zE 1 (.istore_n 2) 1 :: zEk 2 (.iconst 0) 1 w2 :: zE 3 (.istore_n 3) 1 :: es) σ [vR 11 0, vI x1, y2, y3] [] = zev zc0 G 1 krI es σ [vR 11 0, vI x1, vI w0, vI w2] [] := rfl
theorem t_X11_isWarm_4 {G : Nat → zH → List zAV → List zAV → Option (zH × Int32)} (es : List zEnt) (σ : zH) (x1 : Int32) (x2 : Int32) (x3 : Int32)  (w9 : Int32) : zev zc0 G 1 krI (zE 4 (.iload_n 3) 1 :: zE 5 (.aload_n 0) 1 :: zEf 6 (.getfield 7) 3 11 1 149 (2, 42, 0) :: zEk 9 (.iconst 0) 1 w9 :: es) σ [vR 11 0, vI x1, vI x2, vI x3] [] = zev zc0 G 1 krI es σ [vR 11 0, vI x1, vI x2, vI x3] [vI w9, vR 42 0, vI x3] := rfl
theorem t_X11_isWarm_14 {G : Nat → zH → List zAV → List zAV → Option (zH × Int32)} (es : List zEnt) (σ : zH) (x1 : Int32) (x2 : Int32) (x3 : Int32)   : zev zc0 G 1 krI (zE 14 (.iload_n 2) 1 :: es) σ [vR 11 0, vI x1, vI x2, vI x3] [] = zev zc0 G 1 krI es σ [vR 11 0, vI x1, vI x2, vI x3] [vI x2] := rfl
theorem t_X11_isWarm_18 {G : Nat → zH → List zAV → List zAV → Option (zH × Int32)} (es : List zEnt) (σ : zH) (x1 : Int32) (x3 : Int32) (y2 : zAV)  : zev zc0 G 1 krI (zE 18 (.iload_n 3) 1 :: zE 19 (.iload_n 1) 1 :: es) σ [vR 11 0, vI x1, y2, vI x3] [] = zev zc0 G 1 krI es σ [vR 11 0, vI x1, y2, vI x3] [vI x1, vI x3] := rfl
theorem t_X11_isWarm_23 {G : Nat → zH → List zAV → List zAV → Option (zH × Int32)} (es : List zEnt) (σ : zH) (x1 : Int32) (x3 : Int32) (y2 : zAV)  : zev zc0 G 1 krI (zE 23 (.aload_n 0) 1 :: zEf 24 (.getfield 19) 3 11 4 152 (2, 45, 0) :: zE 27 (.iload_n 3) 1 :: es) σ [vR 11 0, vI x1, y2, vI x3] [] = zev zc0 G 1 krI es σ [vR 11 0, vI x1, y2, vI x3] [vI x3, vR 45 0] := rfl
theorem t_X11_isWarm_29 {G : Nat → zH → List zAV → List zAV → Option (zH × Int32)} (es : List zEnt) (σ : zH) (x1 : Int32) (x3 : Int32) (xs0 : Int32) (y2 : zAV)  : zev zc0 G 1 krI (zE 29 (.aload_n 0) 1 :: zEf 30 (.getfield 19) 3 11 4 152 (2, 45, 0) :: zE 33 (.iload_n 1) 1 :: es) σ [vR 11 0, vI x1, y2, vI x3] [vI xs0] = zev zc0 G 1 krI es σ [vR 11 0, vI x1, y2, vI x3] [vI x1, vR 45 0, vI xs0] := rfl
theorem t_X11_isWarm_38 {G : Nat → zH → List zAV → List zAV → Option (zH × Int32)} (es : List zEnt) (σ : zH) (x1 : Int32) (x3 : Int32) (y2 : zAV)  : zev zc0 G 1 krI (zE 38 (.aload_n 0) 1 :: zEf 39 (.getfield 79) 3 11 24 172 (2, 65, 0) :: zE 42 (.iload_n 3) 1 :: es) σ [vR 11 0, vI x1, y2, vI x3] [] = zev zc0 G 1 krI es σ [vR 11 0, vI x1, y2, vI x3] [vI x3, vR 65 0] := rfl
theorem t_X11_isWarm_44 {G : Nat → zH → List zAV → List zAV → Option (zH × Int32)} (es : List zEnt) (σ : zH) (x1 : Int32) (x3 : Int32) (xs0 : Int32) (y2 : zAV) (w48 : Int32) : zev zc0 G 1 krI (zE 44 (.aload_n 0) 1 :: zEf 45 (.getfield 7) 3 11 1 149 (2, 42, 0) :: zEk 48 (.iconst 4) 1 w48 :: es) σ [vR 11 0, vI x1, y2, vI x3] [vI xs0] = zev zc0 G 1 krI es σ [vR 11 0, vI x1, y2, vI x3] [vI w48, vR 42 0, vI xs0] := rfl
theorem t_X11_isWarm_50 {G : Nat → zH → List zAV → List zAV → Option (zH × Int32)} (es : List zEnt) (σ : zH) (x1 : Int32) (x3 : Int32) (xs0 : Int32) (xs1 : Int32) (y2 : zAV) (w50 : Int32) : zev zc0 G 1 krI (zEk 50 (.iconst 4) 1 w50 :: zE 51 .isub 1 :: es) σ [vR 11 0, vI x1, y2, vI x3] [vI xs1, vI xs0] = zev zc0 G 1 krI es σ [vR 11 0, vI x1, y2, vI x3] [vI (xs1 - w50), vI xs0] := rfl
theorem t_X11_isWarm_55 {G : Nat → zH → List zAV → List zAV → Option (zH × Int32)} (es : List zEnt) (σ : zH) (x1 : Int32) (x3 : Int32) (y2 : zAV) (w55 : Int32) : zev zc0 G 1 krI (zEk 55 (.iconst 1) 1 w55 :: es) σ [vR 11 0, vI x1, y2, vI x3] [] = zev zc0 G 1 krI es σ [vR 11 0, vI x1, y2, vI x3] [vI w55] := rfl
theorem t_X11_isWarm_59 {G : Nat → zH → List zAV → List zAV → Option (zH × Int32)} (es : List zEnt) (σ : zH) (x1 : Int32) (x3 : Int32) (y2 : zAV) (w59 : Int32) : zev zc0 G 1 krI (zEk 59 (.iconst 0) 1 w59 :: es) σ [vR 11 0, vI x1, y2, vI x3] [] = zev zc0 G 1 krI es σ [vR 11 0, vI x1, y2, vI x3] [vI w59] := rfl
theorem t_X11_isWarm_60 {G : Nat → zH → List zAV → List zAV → Option (zH × Int32)} (es : List zEnt) (σ : zH) (x1 : Int32) (x3 : Int32) (xs0 : Int32) (y2 : zAV) (w61 : Int32) : zev zc0 G 1 krI (zE 60 (.istore_n 2) 1 :: zEk 61 (.iinc 3 1) 3 w61 :: es) σ [vR 11 0, vI x1, y2, vI x3] [vI xs0] = zev zc0 G 1 krI es σ [vR 11 0, vI x1, vI xs0, vI (x3 + w61)] [] := rfl
theorem t_X11_isWarm_67 {G : Nat → zH → List zAV → List zAV → Option (zH × Int32)} (es : List zEnt) (σ : zH) (x2 : Int32) (y0 : zAV) (y1 : zAV) (y3 : zAV)  : zev zc0 G 1 krI (zE 67 (.iload_n 2) 1 :: es) σ [y0, y1, vI x2, y3] [] = zev zc0 G 1 krI es σ [y0, y1, vI x2, y3] [vI x2] := rfl
noncomputable def j_X11_isWarm_60 (c4 : zH → Int32 → Int32 → Int32 → Option (zH × Int32)) (σ : zH) (x1 : Int32) (x3 : Int32) (xs0 : Int32) : Option (zH × Int32) :=
  c4 σ x1 xs0 (x3 + (1 : Int32))
theorem e_X11_isWarm_60 (c4 : zH → Int32 → Int32 → Int32 → Option (zH × Int32)) (σ : zH) (x1 : Int32) (x3 : Int32) (xs0 : Int32) (y2 : zAV) : j_X11_isWarm_60 c4 σ x1 x3 xs0 = zin zc0 (fun t => if t = 4 then some (gl_X11_isWarm_4 c4) else none) 1 krI b_X11_isWarm 60 σ [vR 11 0, vI x1, y2, vI x3] [vI xs0] := by
  unfold j_X11_isWarm_60
  refine Eq.symm ((zin_b (es := q_X11_isWarm_60) rfl).trans ?_)
  refine (t_X11_isWarm_60 _ _ _ _ _ _ _).trans ?_
  refine x_goto.trans ?_
  exact (zrun_c rfl).trans (glr_X11_isWarm_4 _ _ _ _ _)
theorem s_X11_isWarm_60 {X : zX} (hX : zHX X) {c4 : zH → Int32 → Int32 → Int32 → Option (zH × Int32)} (h4 : ∀ σ L st r, gl_X11_isWarm_4 c4 σ L st = some r → zGW X 170 krI 4 σ L st r) : ∀ σ L st r, gl_X11_isWarm_60 (j_X11_isWarm_60 c4) σ L st = some r → zGW X 170 krI 60 σ L st r := by
  intro σ L st r h
  unfold gl_X11_isWarm_60 at h
  split at h
  · exact zin_ok (hy_X11_isWarm hX) bk_X11_isWarm (fun t f hf => by
    by_cases e4 : t = 4
    · rw [if_pos e4] at hf; subst e4; cases hf; exact h4
    rw [if_neg e4] at hf
    cases hf) ((e_X11_isWarm_60 _ _ _ _ _ _).symm.trans h)
  · cases h
noncomputable def j_X11_isWarm_55 (c4 : zH → Int32 → Int32 → Int32 → Option (zH × Int32)) (σ : zH) (x1 : Int32) (x3 : Int32) : Option (zH × Int32) :=
  (j_X11_isWarm_60 c4) σ x1 x3 (1 : Int32)
theorem e_X11_isWarm_55 (c4 : zH → Int32 → Int32 → Int32 → Option (zH × Int32)) (σ : zH) (x1 : Int32) (x3 : Int32) (y2 : zAV) : j_X11_isWarm_55 c4 σ x1 x3 = zin zc0 (fun t => if t = 60 then some (gl_X11_isWarm_60 (j_X11_isWarm_60 c4)) else none) 1 krI b_X11_isWarm 55 σ [vR 11 0, vI x1, y2, vI x3] [] := by
  unfold j_X11_isWarm_55
  refine Eq.symm ((zin_b (es := q_X11_isWarm_55) rfl).trans ?_)
  refine (t_X11_isWarm_55 _ _ _ _ _ _).trans ?_
  refine x_goto.trans ?_
  exact (zrun_c rfl).trans (glr_X11_isWarm_60 _ _ _ _ _ _)
theorem s_X11_isWarm_55 {X : zX} (hX : zHX X) {c4 : zH → Int32 → Int32 → Int32 → Option (zH × Int32)} (h4 : ∀ σ L st r, gl_X11_isWarm_4 c4 σ L st = some r → zGW X 170 krI 4 σ L st r) : ∀ σ L st r, gl_X11_isWarm_55 (j_X11_isWarm_55 c4) σ L st = some r → zGW X 170 krI 55 σ L st r := by
  intro σ L st r h
  unfold gl_X11_isWarm_55 at h
  split at h
  · exact zin_ok (hy_X11_isWarm hX) bk_X11_isWarm (fun t f hf => by
    by_cases e60 : t = 60
    · rw [if_pos e60] at hf; subst e60; cases hf; exact (s_X11_isWarm_60 hX h4)
    rw [if_neg e60] at hf
    cases hf) ((e_X11_isWarm_55 _ _ _ _ _).symm.trans h)
  · cases h
noncomputable def j_X11_isWarm_59 (c4 : zH → Int32 → Int32 → Int32 → Option (zH × Int32)) (σ : zH) (x1 : Int32) (x3 : Int32) : Option (zH × Int32) :=
  (j_X11_isWarm_60 c4) σ x1 x3 (0 : Int32)
theorem e_X11_isWarm_59 (c4 : zH → Int32 → Int32 → Int32 → Option (zH × Int32)) (σ : zH) (x1 : Int32) (x3 : Int32) (y2 : zAV) : j_X11_isWarm_59 c4 σ x1 x3 = zin zc0 (fun t => if t = 60 then some (gl_X11_isWarm_60 (j_X11_isWarm_60 c4)) else none) 1 krI b_X11_isWarm 59 σ [vR 11 0, vI x1, y2, vI x3] [] := by
  unfold j_X11_isWarm_59
  refine Eq.symm ((zin_b (es := q_X11_isWarm_59) rfl).trans ?_)
  refine (t_X11_isWarm_59 _ _ _ _ _ _).trans ?_
  refine x_cut.trans ?_
  exact (zrun_c rfl).trans (glr_X11_isWarm_60 _ _ _ _ _ _)
theorem s_X11_isWarm_59 {X : zX} (hX : zHX X) {c4 : zH → Int32 → Int32 → Int32 → Option (zH × Int32)} (h4 : ∀ σ L st r, gl_X11_isWarm_4 c4 σ L st = some r → zGW X 170 krI 4 σ L st r) : ∀ σ L st r, gl_X11_isWarm_59 (j_X11_isWarm_59 c4) σ L st = some r → zGW X 170 krI 59 σ L st r := by
  intro σ L st r h
  unfold gl_X11_isWarm_59 at h
  split at h
  · exact zin_ok (hy_X11_isWarm hX) bk_X11_isWarm (fun t f hf => by
    by_cases e60 : t = 60
    · rw [if_pos e60] at hf; subst e60; cases hf; exact (s_X11_isWarm_60 hX h4)
    rw [if_neg e60] at hf
    cases hf) ((e_X11_isWarm_59 _ _ _ _ _).symm.trans h)
  · cases h
noncomputable def k_X11_isWarm_4  : Nat → zH → Int32 → Int32 → Int32 → Option (zH × Int32)
  | 0, _, _, _, _ => none
  | n + 1, σ, x1, x2, x3 =>
    if x3 < (σ.1 42 0 0) then
      if x2 = 0 then
        if x3 = x1 then
          (j_X11_isWarm_59 (k_X11_isWarm_4 n)) σ x1 x3
        else
          ix x3 12 fun j1 =>
          ix x1 12 fun j2 =>
          if (σ.1 45 0 j1) = (σ.1 45 0 j2) then
            ix x3 12 fun j3 =>
            if ((σ.1 42 0 4) - (4 : Int32)) < (σ.1 65 0 j3) then
              (j_X11_isWarm_55 (k_X11_isWarm_4 n)) σ x1 x3
            else
              (j_X11_isWarm_59 (k_X11_isWarm_4 n)) σ x1 x3
          else
            (j_X11_isWarm_59 (k_X11_isWarm_4 n)) σ x1 x3
      else
        (j_X11_isWarm_55 (k_X11_isWarm_4 n)) σ x1 x3
    else
      tv x2 <| some (σ, x2)
theorem e_X11_isWarm_4  (n : Nat) (σ : zH) (x1 : Int32) (x2 : Int32) (x3 : Int32)  : k_X11_isWarm_4 (n + 1) σ x1 x2 x3 = zin zc0 (fun t => if t = 55 then some (gl_X11_isWarm_55 (j_X11_isWarm_55 (k_X11_isWarm_4 n))) else if t = 59 then some (gl_X11_isWarm_59 (j_X11_isWarm_59 (k_X11_isWarm_4 n))) else none) 1 krI b_X11_isWarm 4 σ [vR 11 0, vI x1, vI x2, vI x3] [] := by
  rw [k_X11_isWarm_4]
  refine Eq.symm ((zin_b (es := q_X11_isWarm_4) rfl).trans ?_)
  refine (t_X11_isWarm_4 _ _ _ _ _ _).trans ?_
  refine ((x_iald (N := 11) rfl rfl).trans (ix_l 0 (by decide +kernel))).trans ?_
  refine x_icmp.trans (pif_ge ?_ ?_)
  · refine (zrun_b (es := q_X11_isWarm_67) rfl rfl).trans ?_
    refine (t_X11_isWarm_67 _ _ _ _ _ _).trans ?_
    exact x_zret
  · refine (t_X11_isWarm_14 _ _ _ _ _).trans ?_
    refine x_if.trans (pif_ne ?_ ?_)
    · exact (zrun_c rfl).trans (glr_X11_isWarm_55 _ _ _ _ _)
    · refine (t_X11_isWarm_18 _ _ _ _ _).trans ?_
      refine x_icmp.trans (pif_eq ?_ ?_)
      · exact (zrun_c rfl).trans (glr_X11_isWarm_59 _ _ _ _ _)
      · refine (t_X11_isWarm_23 _ _ _ _ _).trans ?_
        refine (x_iald (N := 12) rfl rfl).trans (pix fun _ => ?_)
        refine (t_X11_isWarm_29 _ _ _ _ _ _).trans ?_
        refine (x_iald (N := 12) rfl rfl).trans (pix fun _ => ?_)
        refine x_icmp.trans (pif_ne ?_ ?_)
        · exact (zrun_c rfl).trans (glr_X11_isWarm_59 _ _ _ _ _)
        · refine (t_X11_isWarm_38 _ _ _ _ _).trans ?_
          refine (x_iald (N := 12) rfl rfl).trans (pix fun _ => ?_)
          refine (t_X11_isWarm_44 _ _ _ _ _ _ _).trans ?_
          refine ((x_iald (N := 11) rfl rfl).trans (ix_l 4 (by decide +kernel))).trans ?_
          refine (t_X11_isWarm_50 _ _ _ _ _ _ _ _).trans ?_
          refine x_icmp.trans (pif_le ?_ ?_)
          · exact (zrun_c rfl).trans (glr_X11_isWarm_59 _ _ _ _ _)
          · refine x_cut.trans ?_
            exact (zrun_c rfl).trans (glr_X11_isWarm_55 _ _ _ _ _)
theorem s_X11_isWarm_4 {X : zX} (hX : zHX X)   : ∀ n σ L st r, gl_X11_isWarm_4 (k_X11_isWarm_4 n) σ L st = some r → zGW X 170 krI 4 σ L st r := by
  intro n
  induction n with
  | zero =>
    intro σ L st r h
    unfold gl_X11_isWarm_4 at h
    split at h <;> cases h
  | succ n ih =>
    intro σ L st r h
    unfold gl_X11_isWarm_4 at h
    split at h
    · exact zin_ok (hy_X11_isWarm hX) bk_X11_isWarm (fun t f hf => by
      by_cases e55 : t = 55
      · rw [if_pos e55] at hf; subst e55; cases hf; exact (s_X11_isWarm_55 hX ih)
      rw [if_neg e55] at hf
      by_cases e59 : t = 59
      · rw [if_pos e59] at hf; subst e59; cases hf; exact (s_X11_isWarm_59 hX ih)
      rw [if_neg e59] at hf
      cases hf) ((e_X11_isWarm_4 _ _ _ _ _).symm.trans h)
    · cases h
noncomputable def d_X11_isWarm (σ : zH) (xa1 : Int32) : Option (zH × Int32) :=
  (k_X11_isWarm_4 zN) σ xa1 (0 : Int32) (0 : Int32)
theorem e_X11_isWarm (σ : zH) (xa1 : Int32) : d_X11_isWarm σ xa1 = zin zc0 (fun t => if t = 4 then some (gl_X11_isWarm_4 (k_X11_isWarm_4 zN)) else none) 1 krI b_X11_isWarm 0 σ [vR 11 0, vI xa1, vU, vU] [] := by
  unfold d_X11_isWarm
  refine Eq.symm ((zin_b (es := q_X11_isWarm_0) rfl).trans ?_)
  refine (t_X11_isWarm_0 _ _ _ _ _ _ _).trans ?_
  refine x_cut.trans ?_
  exact (zrun_c rfl).trans (glr_X11_isWarm_4 _ _ _ _ _)
noncomputable def g_X11_isWarm {ρ : Type} (σ : zH) (av : List zAV) (q : zH → zAV → Option ρ) : Option ρ := match av with
  | [.inr (.inr (.inl (11, 0))), .inl xa1] => (d_X11_isWarm σ xa1).bind fun p => q p.1 (vI p.2)
  | _ => none
theorem gr_X11_isWarm {ρ : Type} (σ : zH) (xa1 : Int32) (q : zH → zAV → Option ρ) : g_X11_isWarm σ [vR 11 0, vI xa1] q = (d_X11_isWarm σ xa1).bind fun p => q p.1 (vI p.2) := rfl
theorem c_X11_isWarm {ρ : Type} {X : zX} (hX : zHX X) {σ : zH} {av : List zAV} {q : zH → zAV → Option ρ} {r : ρ} (h : g_X11_isWarm σ av q = some r) (hv : ∀ a ∈ av, zval X a) : zcon X 170 σ av q r := by
  unfold g_X11_isWarm at h
  split at h
  · exact zcon_I (n := 170) (ml := 4) (rc := 1) (st := 0) (kd := 11) (np := 1) (by decide +kernel) (by decide) ⟨_, _, rfl, rfl⟩ (Nat.le_of_ble_eq_true rfl) hv h (fun y h1 => (zin_ok (hy_X11_isWarm hX) bk_X11_isWarm (fun t f hf => by
      by_cases e4 : t = 4
      · rw [if_pos e4] at hf; subst e4; cases hf; exact ((fun σ L st r h => s_X11_isWarm_4 hX  zN σ L st r h))
      rw [if_neg e4] at hf
      cases hf) ((e_X11_isWarm _ _).symm.trans h1)))
  · cases h
/-! SleepWavesModel.changes(IIII)V -/
def q_X11_changes_29 : List zEnt := zEa 29 (.goto 9) 3 38 :: []
def q_X11_changes_28 : List zEnt := zE 28 .iaload 1 :: q_X11_changes_29
def q_X11_changes_23 : List zEnt := zE 23 (.aload_n 0) 1 :: zEf 24 (.getfield 7) 3 11 1 149 (2, 42, 0) :: zEk 27 (.iconst 4) 1 4 :: q_X11_changes_28
def q_X11_changes_20 : List zEnt := zEa 20 (.ifCond .ne 12) 3 32 :: q_X11_changes_23
def q_X11_changes_14 : List zEnt := zE 14 (.aload_n 0) 1 :: zEf 15 (.getfield 79) 3 11 24 172 (2, 65, 0) :: zE 18 (.iload_n 1) 1 :: zE 19 (.iload_n 2) 1 :: q_X11_changes_20
def q_X11_changes_13 : List zEnt := zE 13 .iastore 1 :: q_X11_changes_14
def q_X11_changes_7 : List zEnt := zE 7 (.aload_n 0) 1 :: zEf 8 (.getfield 76) 3 11 23 171 (2, 64, 0) :: zE 11 (.iload_n 1) 1 :: zEk 12 (.iconst 0) 1 0 :: q_X11_changes_13
def q_X11_changes_6 : List zEnt := zE 6 .iastore 1 :: q_X11_changes_7
def q_X11_changes_0 : List zEnt := zE 0 (.aload_n 0) 1 :: zEf 1 (.getfield 70) 3 11 21 169 (2, 62, 0) :: zE 4 (.iload_n 1) 1 :: zE 5 (.iload_n 2) 1 :: q_X11_changes_6
def q_X11_changes_37 : List zEnt := zE 37 .iaload 1 :: [zE 38 .nop 0]
def q_X11_changes_32 : List zEnt := zE 32 (.aload_n 0) 1 :: zEf 33 (.getfield 79) 3 11 24 172 (2, 65, 0) :: zE 36 (.iload_n 1) 1 :: q_X11_changes_37
def q_X11_changes_66 : List zEnt := zE 66 .return_ 1 :: []
def q_X11_changes_65 : List zEnt := zE 65 .iastore 1 :: q_X11_changes_66
def q_X11_changes_58 : List zEnt := zE 58 (.aload_n 0) 1 :: zEf 59 (.getfield 91) 3 11 28 176 (2, 69, 0) :: zE 62 (.iload_n 1) 1 :: zE 63 (.iload 4) 2 :: q_X11_changes_65
def q_X11_changes_57 : List zEnt := zE 57 .iastore 1 :: q_X11_changes_58
def q_X11_changes_56 : List zEnt := zE 56 .iaload 1 :: q_X11_changes_57
def q_X11_changes_46 : List zEnt := zE 46 (.aload_n 0) 1 :: zEf 47 (.getfield 88) 3 11 27 175 (2, 68, 0) :: zE 50 (.iload_n 1) 1 :: zE 51 (.aload_n 0) 1 :: zEf 52 (.getfield 7) 3 11 1 149 (2, 42, 0) :: zEk 55 (.iconst 4) 1 4 :: q_X11_changes_56
def q_X11_changes_45 : List zEnt := zE 45 .iastore 1 :: q_X11_changes_46
def q_X11_changes_39 : List zEnt := zE 39 (.aload_n 0) 1 :: zEf 40 (.getfield 85) 3 11 26 174 (2, 67, 0) :: zE 43 (.iload_n 1) 1 :: zE 44 (.iload_n 3) 1 :: q_X11_changes_45
def q_X11_changes_38 : List zEnt := zE 38 .iastore 1 :: q_X11_changes_39
def b_X11_changes : List (Nat × List zEnt) := [(0, q_X11_changes_0), (32, q_X11_changes_32), (38, q_X11_changes_38)]
theorem bk_X11_changes : zchB 171 b_X11_changes = true := by decide +kernel
theorem hy_X11_changes {ρ : Type} {X : zX} (hX : zHX X) : zHY X 171 (zc0 (ρ := ρ)) := zHX.hY hX (zc0_ok X) (zmok_all 171 (by decide))
def gl_X11_changes_38 {ρ : Type} (f : zH → Int32 → Int32 → Int32 → Int32 → Int32 → Option ρ) (σ : zH) (L st : List zAV) : Option ρ := match L, st with
  | [.inr (.inr (.inl (11, 0))), .inl x1, _, .inl x3, .inl x4], [.inl xs2, .inl xs1, .inr (.inr (.inl (65, 0)))] => f σ x1 x3 x4 xs1 xs2
  | _, _ => none
theorem glr_X11_changes_38 {ρ : Type} (f : zH → Int32 → Int32 → Int32 → Int32 → Int32 → Option ρ) (σ : zH) (x1 : Int32) (x3 : Int32) (x4 : Int32) (xs1 : Int32) (xs2 : Int32) (y2 : zAV) : gl_X11_changes_38 f σ [vR 11 0, vI x1, y2, vI x3, vI x4] [vI xs2, vI xs1, vR 65 0] = f σ x1 x3 x4 xs1 xs2 := rfl
theorem t_X11_changes_0 {G : Nat → zH → List zAV → List zAV → Option zH} (es : List zEnt) (σ : zH) (x1 : Int32) (x2 : Int32) (x3 : Int32) (x4 : Int32)   : zev zc0 G 9 krV (zE 0 (.aload_n 0) 1 :: zEf 1 (.getfield 70) 3 11 21 169 (2, 62, 0) :: zE 4 (.iload_n 1) 1 :: zE 5 (.iload_n 2) 1 :: es) σ [vR 11 0, vI x1, vI x2, vI x3, vI x4] [] = zev zc0 G 9 krV es σ [vR 11 0, vI x1, vI x2, vI x3, vI x4] [vI x2, vI x1, vR 62 0] := rfl
theorem t_X11_changes_7 {G : Nat → zH → List zAV → List zAV → Option zH} (es : List zEnt) (σ : zH) (x1 : Int32) (x2 : Int32) (x3 : Int32) (x4 : Int32)  (w12 : Int32) : zev zc0 G 9 krV (zE 7 (.aload_n 0) 1 :: zEf 8 (.getfield 76) 3 11 23 171 (2, 64, 0) :: zE 11 (.iload_n 1) 1 :: zEk 12 (.iconst 0) 1 w12 :: es) σ [vR 11 0, vI x1, vI x2, vI x3, vI x4] [] = zev zc0 G 9 krV es σ [vR 11 0, vI x1, vI x2, vI x3, vI x4] [vI w12, vI x1, vR 64 0] := rfl
theorem t_X11_changes_14 {G : Nat → zH → List zAV → List zAV → Option zH} (es : List zEnt) (σ : zH) (x1 : Int32) (x2 : Int32) (x3 : Int32) (x4 : Int32)   : zev zc0 G 9 krV (zE 14 (.aload_n 0) 1 :: zEf 15 (.getfield 79) 3 11 24 172 (2, 65, 0) :: zE 18 (.iload_n 1) 1 :: zE 19 (.iload_n 2) 1 :: es) σ [vR 11 0, vI x1, vI x2, vI x3, vI x4] [] = zev zc0 G 9 krV es σ [vR 11 0, vI x1, vI x2, vI x3, vI x4] [vI x2, vI x1, vR 65 0] := rfl
theorem t_X11_changes_23 {G : Nat → zH → List zAV → List zAV → Option zH} (es : List zEnt) (σ : zH) (x1 : Int32) (x3 : Int32) (x4 : Int32) (xs1 : Int32) (y2 : zAV) (w27 : Int32) : zev zc0 G 9 krV (zE 23 (.aload_n 0) 1 :: zEf 24 (.getfield 7) 3 11 1 149 (2, 42, 0) :: zEk 27 (.iconst 4) 1 w27 :: es) σ [vR 11 0, vI x1, y2, vI x3, vI x4] [vI xs1, vR 65 0] = zev zc0 G 9 krV es σ [vR 11 0, vI x1, y2, vI x3, vI x4] [vI w27, vR 42 0, vI xs1, vR 65 0] := rfl
theorem t_X11_changes_32 {G : Nat → zH → List zAV → List zAV → Option zH} (es : List zEnt) (σ : zH) (x1 : Int32) (x3 : Int32) (x4 : Int32) (xs1 : Int32) (y2 : zAV)  : zev zc0 G 9 krV (zE 32 (.aload_n 0) 1 :: zEf 33 (.getfield 79) 3 11 24 172 (2, 65, 0) :: zE 36 (.iload_n 1) 1 :: es) σ [vR 11 0, vI x1, y2, vI x3, vI x4] [vI xs1, vR 65 0] = zev zc0 G 9 krV es σ [vR 11 0, vI x1, y2, vI x3, vI x4] [vI x1, vR 65 0, vI xs1, vR 65 0] := rfl
theorem t_X11_changes_39 {G : Nat → zH → List zAV → List zAV → Option zH} (es : List zEnt) (σ : zH) (x1 : Int32) (x3 : Int32) (x4 : Int32) (y2 : zAV)  : zev zc0 G 9 krV (zE 39 (.aload_n 0) 1 :: zEf 40 (.getfield 85) 3 11 26 174 (2, 67, 0) :: zE 43 (.iload_n 1) 1 :: zE 44 (.iload_n 3) 1 :: es) σ [vR 11 0, vI x1, y2, vI x3, vI x4] [] = zev zc0 G 9 krV es σ [vR 11 0, vI x1, y2, vI x3, vI x4] [vI x3, vI x1, vR 67 0] := rfl
theorem t_X11_changes_46 {G : Nat → zH → List zAV → List zAV → Option zH} (es : List zEnt) (σ : zH) (x1 : Int32) (x4 : Int32) (y2 : zAV) (y3 : zAV) (w55 : Int32) : zev zc0 G 9 krV (zE 46 (.aload_n 0) 1 :: zEf 47 (.getfield 88) 3 11 27 175 (2, 68, 0) :: zE 50 (.iload_n 1) 1 :: zE 51 (.aload_n 0) 1 :: zEf 52 (.getfield 7) 3 11 1 149 (2, 42, 0) :: zEk 55 (.iconst 4) 1 w55 :: es) σ [vR 11 0, vI x1, y2, y3, vI x4] [] = zev zc0 G 9 krV es σ [vR 11 0, vI x1, y2, y3, vI x4] [vI w55, vR 42 0, vI x1, vR 68 0] := rfl
theorem t_X11_changes_58 {G : Nat → zH → List zAV → List zAV → Option zH} (es : List zEnt) (σ : zH) (x1 : Int32) (x4 : Int32) (y2 : zAV) (y3 : zAV)  : zev zc0 G 9 krV (zE 58 (.aload_n 0) 1 :: zEf 59 (.getfield 91) 3 11 28 176 (2, 69, 0) :: zE 62 (.iload_n 1) 1 :: zE 63 (.iload 4) 2 :: es) σ [vR 11 0, vI x1, y2, y3, vI x4] [] = zev zc0 G 9 krV es σ [vR 11 0, vI x1, y2, y3, vI x4] [vI x4, vI x1, vR 69 0] := rfl
noncomputable def j_X11_changes_38  (σ : zH) (x1 : Int32) (x3 : Int32) (x4 : Int32) (xs1 : Int32) (xs2 : Int32) : Option zH :=
  ix xs1 12 fun j8 =>
  zlet (uI σ 65 0 j8 xs2) fun σ1 =>
  ix x1 12 fun j7 =>
  zlet (uI σ1 67 0 j7 x3) fun σ2 =>
  ix x1 12 fun j6 =>
  zlet (uI σ2 68 0 j6 (σ2.1 42 0 4)) fun σ3 =>
  ix x1 12 fun j5 =>
  zlet (uI σ3 69 0 j5 x4) fun σ4 =>
  some σ4
theorem e_X11_changes_38  (σ : zH) (x1 : Int32) (x3 : Int32) (x4 : Int32) (xs1 : Int32) (xs2 : Int32) (y2 : zAV) : j_X11_changes_38 σ x1 x3 x4 xs1 xs2 = zin zc0 (fun t => none) 9 krV b_X11_changes 38 σ [vR 11 0, vI x1, y2, vI x3, vI x4] [vI xs2, vI xs1, vR 65 0] := by
  unfold j_X11_changes_38
  refine Eq.symm ((zin_b (es := q_X11_changes_38) rfl).trans ?_)
  refine (x_iast (N := 12) rfl rfl).trans (pix fun _ => plt fun _ => ?_)
  refine (t_X11_changes_39 _ _ _ _ _ _).trans ?_
  refine (x_iast (N := 12) rfl rfl).trans (pix fun _ => plt fun _ => ?_)
  refine (t_X11_changes_46 _ _ _ _ _ _ _).trans ?_
  refine ((x_iald (N := 11) rfl rfl).trans (ix_l 4 (by decide +kernel))).trans ?_
  refine (x_iast (N := 12) rfl rfl).trans (pix fun _ => plt fun _ => ?_)
  refine (t_X11_changes_58 _ _ _ _ _ _).trans ?_
  refine (x_iast (N := 12) rfl rfl).trans (pix fun _ => plt fun _ => ?_)
  exact x_vret
theorem s_X11_changes_38 {X : zX} (hX : zHX X)   : ∀ σ L st r, gl_X11_changes_38 j_X11_changes_38 σ L st = some r → zGW X 171 krV 38 σ L st r := by
  intro σ L st r h
  unfold gl_X11_changes_38 at h
  split at h
  · exact zin_ok (hy_X11_changes hX) bk_X11_changes (fun t f hf => by
    cases hf) ((e_X11_changes_38 _ _ _ _ _ _ _).symm.trans h)
  · cases h
noncomputable def d_X11_changes (σ : zH) (xa1 : Int32) (xa2 : Int32) (xa3 : Int32) (xa4 : Int32) : Option zH :=
  ix xa1 12 fun j5 =>
  zlet (uI σ 62 0 j5 xa2) fun σ1 =>
  ix xa1 12 fun j4 =>
  zlet (uI σ1 64 0 j4 (0 : Int32)) fun σ2 =>
  if xa2 = 0 then
    j_X11_changes_38 σ2 xa1 xa3 xa4 xa1 (σ2.1 42 0 4)
  else
    ix xa1 12 fun j3 =>
    j_X11_changes_38 σ2 xa1 xa3 xa4 xa1 (σ2.1 65 0 j3)
theorem e_X11_changes (σ : zH) (xa1 : Int32) (xa2 : Int32) (xa3 : Int32) (xa4 : Int32) : d_X11_changes σ xa1 xa2 xa3 xa4 = zin zc0 (fun t => if t = 38 then some (gl_X11_changes_38 j_X11_changes_38) else none) 9 krV b_X11_changes 0 σ [vR 11 0, vI xa1, vI xa2, vI xa3, vI xa4] [] := by
  unfold d_X11_changes
  refine Eq.symm ((zin_b (es := q_X11_changes_0) rfl).trans ?_)
  refine (t_X11_changes_0 _ _ _ _ _ _).trans ?_
  refine (x_iast (N := 12) rfl rfl).trans (pix fun _ => plt fun _ => ?_)
  refine (t_X11_changes_7 _ _ _ _ _ _ _).trans ?_
  refine (x_iast (N := 12) rfl rfl).trans (pix fun _ => plt fun _ => ?_)
  refine (t_X11_changes_14 _ _ _ _ _ _).trans ?_
  refine x_if.trans (pif_ne ?_ ?_)
  · refine (zrun_b (es := q_X11_changes_32) rfl rfl).trans ?_
    refine (t_X11_changes_32 _ _ _ _ _ _ _).trans ?_
    refine (x_iald (N := 12) rfl rfl).trans (pix fun _ => ?_)
    refine x_cut.trans ?_
    exact (zrun_c rfl).trans (glr_X11_changes_38 _ _ _ _ _ _ _ _)
  · refine (t_X11_changes_23 _ _ _ _ _ _ _ _).trans ?_
    refine ((x_iald (N := 11) rfl rfl).trans (ix_l 4 (by decide +kernel))).trans ?_
    refine x_goto.trans ?_
    exact (zrun_c rfl).trans (glr_X11_changes_38 _ _ _ _ _ _ _ _)
noncomputable def g_X11_changes {ρ : Type} (σ : zH) (av : List zAV) (q : zH → zAV → Option ρ) : Option ρ := match av with
  | [.inr (.inr (.inl (11, 0))), .inl xa1, .inl xa2, .inl xa3, .inl xa4] => (d_X11_changes σ xa1 xa2 xa3 xa4).bind fun σ => q σ vU
  | _ => none
theorem gr_X11_changes {ρ : Type} (σ : zH) (xa1 : Int32) (xa2 : Int32) (xa3 : Int32) (xa4 : Int32) (q : zH → zAV → Option ρ) : g_X11_changes σ [vR 11 0, vI xa1, vI xa2, vI xa3, vI xa4] q = (d_X11_changes σ xa1 xa2 xa3 xa4).bind fun σ => q σ vU := rfl
theorem c_X11_changes {ρ : Type} {X : zX} (hX : zHX X) {σ : zH} {av : List zAV} {q : zH → zAV → Option ρ} {r : ρ} (h : g_X11_changes σ av q = some r) (hv : ∀ a ∈ av, zval X a) : zcon X 171 σ av q r := by
  unfold g_X11_changes at h
  split at h
  · exact zcon_V (n := 171) (ml := 5) (rc := 9) (st := 0) (kd := 11) (np := 4) (by decide +kernel) rfl ⟨_, _, rfl, rfl⟩ (Nat.le_of_ble_eq_true rfl) hv h (fun y h1 => (zin_ok (hy_X11_changes hX) bk_X11_changes (fun t f hf => by
      by_cases e38 : t = 38
      · rw [if_pos e38] at hf; subst e38; cases hf; exact (s_X11_changes_38 hX)
      rw [if_neg e38] at hf
      cases hf) ((e_X11_changes _ _ _ _ _).symm.trans h1)))
  · cases h
/-! SleepWavesModel.bellNow()I -/
def q_X11_bellNow_0 : List zEnt := zEk 0 (.iconst 0) 1 0 :: zE 1 (.istore_n 1) 1 :: [zE 2 .nop 0]
def q_X11_bellNow_39 : List zEnt := zE 39 .ireturn 1 :: []
def q_X11_bellNow_38 : List zEnt := zE 38 (.iload_n 1) 1 :: q_X11_bellNow_39
def q_X11_bellNow_35 : List zEnt := zEa 35 (.if_icmp .ne 5) 3 40 :: q_X11_bellNow_38
def q_X11_bellNow_34 : List zEnt := zE 34 .irem 1 :: q_X11_bellNow_35
def q_X11_bellNow_32 : List zEnt := zEk 32 (.bipush 96) 2 96 :: q_X11_bellNow_34
def q_X11_bellNow_31 : List zEnt := zE 31 .iaload 1 :: q_X11_bellNow_32
def q_X11_bellNow_26 : List zEnt := zE 26 (.aload_n 0) 1 :: zEf 27 (.getfield 7) 3 11 1 149 (2, 42, 0) :: zEk 30 (.iconst 4) 1 4 :: q_X11_bellNow_31
def q_X11_bellNow_25 : List zEnt := zE 25 .iaload 1 :: q_X11_bellNow_26
def q_X11_bellNow_20 : List zEnt := zE 20 (.aload_n 0) 1 :: zEf 21 (.getfield 25) 3 11 6 154 (2, 47, 0) :: zE 24 (.iload_n 1) 1 :: q_X11_bellNow_25
def q_X11_bellNow_17 : List zEnt := zEa 17 (.if_icmp .eq 23) 3 40 :: q_X11_bellNow_20
def q_X11_bellNow_12 : List zEnt := zE 12 (.iload_n 1) 1 :: zE 13 (.aload_n 0) 1 :: zEf 14 (.getfield 94) 3 11 29 177 (0, 0, 0) :: q_X11_bellNow_17
def q_X11_bellNow_9 : List zEnt := zEa 9 (.if_icmp .ge 37) 3 46 :: q_X11_bellNow_12
def q_X11_bellNow_8 : List zEnt := zE 8 .iaload 1 :: q_X11_bellNow_9
def q_X11_bellNow_2 : List zEnt := zE 2 (.iload_n 1) 1 :: zE 3 (.aload_n 0) 1 :: zEf 4 (.getfield 7) 3 11 1 149 (2, 42, 0) :: zEk 7 (.iconst 1) 1 1 :: q_X11_bellNow_8
def q_X11_bellNow_43 : List zEnt := zEa 43 (.goto (-41)) 3 2 :: []
def q_X11_bellNow_40 : List zEnt := zEk 40 (.iinc 1 1) 3 1 :: q_X11_bellNow_43
def q_X11_bellNow_47 : List zEnt := zE 47 .ireturn 1 :: []
def q_X11_bellNow_46 : List zEnt := zEk 46 (.iconst (-1)) 1 (-1) :: q_X11_bellNow_47
def b_X11_bellNow : List (Nat × List zEnt) := [(0, q_X11_bellNow_0), (2, q_X11_bellNow_2), (40, q_X11_bellNow_40), (46, q_X11_bellNow_46)]
theorem bk_X11_bellNow : zchB 172 b_X11_bellNow = true := by decide +kernel
theorem hy_X11_bellNow {ρ : Type} {X : zX} (hX : zHX X) : zHY X 172 (zc0 (ρ := ρ)) := zHX.hY hX (zc0_ok X) (zmok_all 172 (by decide))
def gl_X11_bellNow_2 {ρ : Type} (f : zH → Int32 → Option ρ) (σ : zH) (L st : List zAV) : Option ρ := match L, st with
  | [.inr (.inr (.inl (11, 0))), .inl x1], [] => f σ x1
  | _, _ => none
theorem glr_X11_bellNow_2 {ρ : Type} (f : zH → Int32 → Option ρ) (σ : zH) (x1 : Int32)  : gl_X11_bellNow_2 f σ [vR 11 0, vI x1] [] = f σ x1 := rfl
theorem t_X11_bellNow_0 {G : Nat → zH → List zAV → List zAV → Option (zH × Int32)} (es : List zEnt) (σ : zH)  (y1 : zAV) (w0 : Int32) : zev zc0 G 0 krI (zEk 0 (.iconst 0) 1 w0 :: zE 1 (.istore_n 1) 1 :: es) σ [vR 11 0, y1] [] = zev zc0 G 0 krI es σ [vR 11 0, vI w0] [] := rfl
theorem t_X11_bellNow_2 {G : Nat → zH → List zAV → List zAV → Option (zH × Int32)} (es : List zEnt) (σ : zH) (x1 : Int32)  (w7 : Int32) : zev zc0 G 0 krI (zE 2 (.iload_n 1) 1 :: zE 3 (.aload_n 0) 1 :: zEf 4 (.getfield 7) 3 11 1 149 (2, 42, 0) :: zEk 7 (.iconst 1) 1 w7 :: es) σ [vR 11 0, vI x1] [] = zev zc0 G 0 krI es σ [vR 11 0, vI x1] [vI w7, vR 42 0, vI x1] := rfl
theorem t_X11_bellNow_12 {G : Nat → zH → List zAV → List zAV → Option (zH × Int32)} (es : List zEnt) (σ : zH) (x1 : Int32)   : zev zc0 G 0 krI (zE 12 (.iload_n 1) 1 :: zE 13 (.aload_n 0) 1 :: zEf 14 (.getfield 94) 3 11 29 177 (0, 0, 0) :: es) σ [vR 11 0, vI x1] [] = zev zc0 G 0 krI es σ [vR 11 0, vI x1] [vI (σ.1 11 0 29), vI x1] := rfl
theorem t_X11_bellNow_20 {G : Nat → zH → List zAV → List zAV → Option (zH × Int32)} (es : List zEnt) (σ : zH) (x1 : Int32)   : zev zc0 G 0 krI (zE 20 (.aload_n 0) 1 :: zEf 21 (.getfield 25) 3 11 6 154 (2, 47, 0) :: zE 24 (.iload_n 1) 1 :: es) σ [vR 11 0, vI x1] [] = zev zc0 G 0 krI es σ [vR 11 0, vI x1] [vI x1, vR 47 0] := rfl
theorem t_X11_bellNow_26 {G : Nat → zH → List zAV → List zAV → Option (zH × Int32)} (es : List zEnt) (σ : zH) (x1 : Int32) (xs0 : Int32)  (w30 : Int32) : zev zc0 G 0 krI (zE 26 (.aload_n 0) 1 :: zEf 27 (.getfield 7) 3 11 1 149 (2, 42, 0) :: zEk 30 (.iconst 4) 1 w30 :: es) σ [vR 11 0, vI x1] [vI xs0] = zev zc0 G 0 krI es σ [vR 11 0, vI x1] [vI w30, vR 42 0, vI xs0] := rfl
theorem t_X11_bellNow_32 {G : Nat → zH → List zAV → List zAV → Option (zH × Int32)} (es : List zEnt) (σ : zH) (x1 : Int32) (xs0 : Int32) (xs1 : Int32)  (w32 : Int32) : zev zc0 G 0 krI (zEk 32 (.bipush 96) 2 w32 :: es) σ [vR 11 0, vI x1] [vI xs1, vI xs0] = zev zc0 G 0 krI es σ [vR 11 0, vI x1] [vI w32, vI xs1, vI xs0] := rfl
theorem t_X11_bellNow_38 {G : Nat → zH → List zAV → List zAV → Option (zH × Int32)} (es : List zEnt) (σ : zH) (x1 : Int32) (y0 : zAV)  : zev zc0 G 0 krI (zE 38 (.iload_n 1) 1 :: es) σ [y0, vI x1] [] = zev zc0 G 0 krI es σ [y0, vI x1] [vI x1] := rfl
theorem t_X11_bellNow_40 {G : Nat → zH → List zAV → List zAV → Option (zH × Int32)} (es : List zEnt) (σ : zH) (x1 : Int32)  (w40 : Int32) : zev zc0 G 0 krI (zEk 40 (.iinc 1 1) 3 w40 :: es) σ [vR 11 0, vI x1] [] = zev zc0 G 0 krI es σ [vR 11 0, vI (x1 + w40)] [] := rfl
theorem t_X11_bellNow_46 {G : Nat → zH → List zAV → List zAV → Option (zH × Int32)} (es : List zEnt) (σ : zH)  (y0 : zAV) (y1 : zAV) (w46 : Int32) : zev zc0 G 0 krI (zEk 46 (.iconst (-1)) 1 w46 :: es) σ [y0, y1] [] = zev zc0 G 0 krI es σ [y0, y1] [vI w46] := rfl
noncomputable def k_X11_bellNow_2  : Nat → zH → Int32 → Option (zH × Int32)
  | 0, _, _ => none
  | n + 1, σ, x1 =>
    if x1 < (σ.1 42 0 1) then
      if x1 = (σ.1 11 0 29) then
        (k_X11_bellNow_2 n) σ (x1 + (1 : Int32))
      else
        ix x1 8 fun j1 =>
        if (σ.1 47 0 j1) = ((σ.1 42 0 4) - (σ.1 42 0 4) / (96 : Int32) * (96 : Int32)) then
          some (σ, x1)
        else
          (k_X11_bellNow_2 n) σ (x1 + (1 : Int32))
    else
      some (σ, (-1 : Int32))
theorem e_X11_bellNow_2  (n : Nat) (σ : zH) (x1 : Int32)  : k_X11_bellNow_2 (n + 1) σ x1 = zin zc0 (fun t => if t = 2 then some (gl_X11_bellNow_2 (k_X11_bellNow_2 n)) else none) 0 krI b_X11_bellNow 2 σ [vR 11 0, vI x1] [] := by
  rw [k_X11_bellNow_2]
  refine Eq.symm ((zin_b (es := q_X11_bellNow_2) rfl).trans ?_)
  refine (t_X11_bellNow_2 _ _ _ _).trans ?_
  refine ((x_iald (N := 11) rfl rfl).trans (ix_l 1 (by decide +kernel))).trans ?_
  refine x_icmp.trans (pif_ge ?_ ?_)
  · refine (zrun_b (es := q_X11_bellNow_46) rfl rfl).trans ?_
    refine (t_X11_bellNow_46 _ _ _ _ _).trans ?_
    exact x_iret
  · refine (t_X11_bellNow_12 _ _ _).trans ?_
    refine x_icmp.trans (pif_eq ?_ ?_)
    · refine (zrun_b (es := q_X11_bellNow_40) rfl rfl).trans ?_
      refine (t_X11_bellNow_40 _ _ _ _).trans ?_
      refine x_goto.trans ?_
      exact (zrun_c rfl).trans (glr_X11_bellNow_2 _ _ _)
    · refine (t_X11_bellNow_20 _ _ _).trans ?_
      refine (x_iald (N := 8) rfl rfl).trans (pix fun _ => ?_)
      refine (t_X11_bellNow_26 _ _ _ _ _).trans ?_
      refine ((x_iald (N := 11) rfl rfl).trans (ix_l 4 (by decide +kernel))).trans ?_
      refine (t_X11_bellNow_32 _ _ _ _ _ _).trans ?_
      refine (x_irem.trans (nz_l (by decide +kernel))).trans ?_
      refine x_icmp.trans (pif_ne ?_ ?_)
      · refine (zrun_b (es := q_X11_bellNow_40) rfl rfl).trans ?_
        refine (t_X11_bellNow_40 _ _ _ _).trans ?_
        refine x_goto.trans ?_
        exact (zrun_c rfl).trans (glr_X11_bellNow_2 _ _ _)
      · refine (t_X11_bellNow_38 _ _ _ _).trans ?_
        exact x_iret
theorem s_X11_bellNow_2 {X : zX} (hX : zHX X)   : ∀ n σ L st r, gl_X11_bellNow_2 (k_X11_bellNow_2 n) σ L st = some r → zGW X 172 krI 2 σ L st r := by
  intro n
  induction n with
  | zero =>
    intro σ L st r h
    unfold gl_X11_bellNow_2 at h
    split at h <;> cases h
  | succ n ih =>
    intro σ L st r h
    unfold gl_X11_bellNow_2 at h
    split at h
    · exact zin_ok (hy_X11_bellNow hX) bk_X11_bellNow (fun t f hf => by
      by_cases e2 : t = 2
      · rw [if_pos e2] at hf; subst e2; cases hf; exact ih
      rw [if_neg e2] at hf
      cases hf) ((e_X11_bellNow_2 _ _ _).symm.trans h)
    · cases h
noncomputable def d_X11_bellNow (σ : zH)  : Option (zH × Int32) :=
  (k_X11_bellNow_2 zN) σ (0 : Int32)
theorem e_X11_bellNow (σ : zH)  : d_X11_bellNow σ = zin zc0 (fun t => if t = 2 then some (gl_X11_bellNow_2 (k_X11_bellNow_2 zN)) else none) 0 krI b_X11_bellNow 0 σ [vR 11 0, vU] [] := by
  unfold d_X11_bellNow
  refine Eq.symm ((zin_b (es := q_X11_bellNow_0) rfl).trans ?_)
  refine (t_X11_bellNow_0 _ _ _ _).trans ?_
  refine x_cut.trans ?_
  exact (zrun_c rfl).trans (glr_X11_bellNow_2 _ _ _)
noncomputable def g_X11_bellNow {ρ : Type} (σ : zH) (av : List zAV) (q : zH → zAV → Option ρ) : Option ρ := match av with
  | [.inr (.inr (.inl (11, 0)))] => (d_X11_bellNow σ).bind fun p => q p.1 (vI p.2)
  | _ => none
theorem gr_X11_bellNow {ρ : Type} (σ : zH)  (q : zH → zAV → Option ρ) : g_X11_bellNow σ [vR 11 0] q = (d_X11_bellNow σ).bind fun p => q p.1 (vI p.2) := rfl
theorem c_X11_bellNow {ρ : Type} {X : zX} (hX : zHX X) {σ : zH} {av : List zAV} {q : zH → zAV → Option ρ} {r : ρ} (h : g_X11_bellNow σ av q = some r) (hv : ∀ a ∈ av, zval X a) : zcon X 172 σ av q r := by
  unfold g_X11_bellNow at h
  split at h
  · exact zcon_I (n := 172) (ml := 2) (rc := 0) (st := 0) (kd := 11) (np := 0) (by decide +kernel) (by decide) ⟨_, _, rfl, rfl⟩ (Nat.le_of_ble_eq_true rfl) hv h (fun y h1 => (zin_ok (hy_X11_bellNow hX) bk_X11_bellNow (fun t f hf => by
      by_cases e2 : t = 2
      · rw [if_pos e2] at hf; subst e2; cases hf; exact ((fun σ L st r h => s_X11_bellNow_2 hX  zN σ L st r h))
      rw [if_neg e2] at hf
      cases hf) ((e_X11_bellNow _).symm.trans h1)))
  · cases h
/-! SleepWavesModel.dutyNow(I)I -/
def q_X11_dutyNow_0 : List zEnt := zEk 0 (.iconst 0) 1 0 :: zE 1 (.istore_n 2) 1 :: [zE 2 .nop 0]
def q_X11_dutyNow_53 : List zEnt := zE 53 .ireturn 1 :: []
def q_X11_dutyNow_52 : List zEnt := zE 52 (.iload_n 2) 1 :: q_X11_dutyNow_53
def q_X11_dutyNow_49 : List zEnt := zEa 49 (.ifCond .eq 5) 3 54 :: q_X11_dutyNow_52
def q_X11_dutyNow_46 : List zEnt := zEc 46 (.invokestatic 173) 3 125 3 129 0 :: q_X11_dutyNow_49
def q_X11_dutyNow_45 : List zEnt := zE 45 .i2l 1 :: q_X11_dutyNow_46
def q_X11_dutyNow_44 : List zEnt := zE 44 .iaload 1 :: q_X11_dutyNow_45
def q_X11_dutyNow_38 : List zEnt := zE 38 .i2l 1 :: zE 39 (.aload_n 0) 1 :: zEf 40 (.getfield 37) 3 11 10 158 (2, 51, 0) :: zE 43 (.iload_n 2) 1 :: q_X11_dutyNow_44
def q_X11_dutyNow_37 : List zEnt := zE 37 .iaload 1 :: q_X11_dutyNow_38
def q_X11_dutyNow_31 : List zEnt := zE 31 .i2l 1 :: zE 32 (.aload_n 0) 1 :: zEf 33 (.getfield 34) 3 11 9 157 (2, 50, 0) :: zE 36 (.iload_n 2) 1 :: q_X11_dutyNow_37
def q_X11_dutyNow_30 : List zEnt := zE 30 .irem 1 :: q_X11_dutyNow_31
def q_X11_dutyNow_28 : List zEnt := zEk 28 (.bipush 96) 2 96 :: q_X11_dutyNow_30
def q_X11_dutyNow_27 : List zEnt := zE 27 .iaload 1 :: q_X11_dutyNow_28
def q_X11_dutyNow_22 : List zEnt := zE 22 (.aload_n 0) 1 :: zEf 23 (.getfield 7) 3 11 1 149 (2, 42, 0) :: zEk 26 (.iconst 4) 1 4 :: q_X11_dutyNow_27
def q_X11_dutyNow_19 : List zEnt := zEa 19 (.if_icmp .ne 35) 3 54 :: q_X11_dutyNow_22
def q_X11_dutyNow_18 : List zEnt := zE 18 (.iload_n 1) 1 :: q_X11_dutyNow_19
def q_X11_dutyNow_17 : List zEnt := zE 17 .iaload 1 :: q_X11_dutyNow_18
def q_X11_dutyNow_12 : List zEnt := zE 12 (.aload_n 0) 1 :: zEf 13 (.getfield 31) 3 11 8 156 (2, 49, 0) :: zE 16 (.iload_n 2) 1 :: q_X11_dutyNow_17
def q_X11_dutyNow_9 : List zEnt := zEa 9 (.if_icmp .ge 51) 3 60 :: q_X11_dutyNow_12
def q_X11_dutyNow_8 : List zEnt := zE 8 .iaload 1 :: q_X11_dutyNow_9
def q_X11_dutyNow_2 : List zEnt := zE 2 (.iload_n 2) 1 :: zE 3 (.aload_n 0) 1 :: zEf 4 (.getfield 7) 3 11 1 149 (2, 42, 0) :: zEk 7 (.iconst 2) 1 2 :: q_X11_dutyNow_8
def q_X11_dutyNow_57 : List zEnt := zEa 57 (.goto (-55)) 3 2 :: []
def q_X11_dutyNow_54 : List zEnt := zEk 54 (.iinc 2 1) 3 1 :: q_X11_dutyNow_57
def q_X11_dutyNow_61 : List zEnt := zE 61 .ireturn 1 :: []
def q_X11_dutyNow_60 : List zEnt := zEk 60 (.iconst (-1)) 1 (-1) :: q_X11_dutyNow_61
def b_X11_dutyNow : List (Nat × List zEnt) := [(0, q_X11_dutyNow_0), (2, q_X11_dutyNow_2), (54, q_X11_dutyNow_54), (60, q_X11_dutyNow_60)]
theorem bk_X11_dutyNow : zchB 173 b_X11_dutyNow = true := by decide +kernel
noncomputable def cc_X11_dutyNow {ρ : Type} : Nat → zH → List zAV → (zH → zAV → Option ρ) → Option ρ := fun n σ av q => if n = 125 then g_X11_in σ av q else none
theorem cs_X11_dutyNow {ρ : Type} {X : zX} (hX : zHX X) : zCS X (cc_X11_dutyNow (ρ := ρ)) := by
  intro n σ av q r h hv
  unfold cc_X11_dutyNow at h
  by_cases e_X11_in : n = 125
  · rw [if_pos e_X11_in] at h
    subst e_X11_in
    exact c_X11_in hX h hv
  rw [if_neg e_X11_in] at h
  cases h
theorem cl_X11_dutyNow_X11_in {ρ : Type} (σ : zH) (av : List zAV) (q : zH → zAV → Option ρ) : cc_X11_dutyNow 125 σ av q = g_X11_in σ av q := rfl
theorem hy_X11_dutyNow {ρ : Type} {X : zX} (hX : zHX X) : zHY X 173 (cc_X11_dutyNow (ρ := ρ)) := zHX.hY hX (cs_X11_dutyNow hX) (zmok_all 173 (by decide))
def gl_X11_dutyNow_2 {ρ : Type} (f : zH → Int32 → Int32 → Option ρ) (σ : zH) (L st : List zAV) : Option ρ := match L, st with
  | [.inr (.inr (.inl (11, 0))), .inl x1, .inl x2], [] => f σ x1 x2
  | _, _ => none
theorem glr_X11_dutyNow_2 {ρ : Type} (f : zH → Int32 → Int32 → Option ρ) (σ : zH) (x1 : Int32) (x2 : Int32)  : gl_X11_dutyNow_2 f σ [vR 11 0, vI x1, vI x2] [] = f σ x1 x2 := rfl
theorem t_X11_dutyNow_0 {G : Nat → zH → List zAV → List zAV → Option (zH × Int32)} (es : List zEnt) (σ : zH) (x1 : Int32) (y2 : zAV) (w0 : Int32) : zev cc_X11_dutyNow G 0 krI (zEk 0 (.iconst 0) 1 w0 :: zE 1 (.istore_n 2) 1 :: es) σ [vR 11 0, vI x1, y2] [] = zev cc_X11_dutyNow G 0 krI es σ [vR 11 0, vI x1, vI w0] [] := rfl
theorem t_X11_dutyNow_2 {G : Nat → zH → List zAV → List zAV → Option (zH × Int32)} (es : List zEnt) (σ : zH) (x1 : Int32) (x2 : Int32)  (w7 : Int32) : zev cc_X11_dutyNow G 0 krI (zE 2 (.iload_n 2) 1 :: zE 3 (.aload_n 0) 1 :: zEf 4 (.getfield 7) 3 11 1 149 (2, 42, 0) :: zEk 7 (.iconst 2) 1 w7 :: es) σ [vR 11 0, vI x1, vI x2] [] = zev cc_X11_dutyNow G 0 krI es σ [vR 11 0, vI x1, vI x2] [vI w7, vR 42 0, vI x2] := rfl
theorem t_X11_dutyNow_12 {G : Nat → zH → List zAV → List zAV → Option (zH × Int32)} (es : List zEnt) (σ : zH) (x1 : Int32) (x2 : Int32)   : zev cc_X11_dutyNow G 0 krI (zE 12 (.aload_n 0) 1 :: zEf 13 (.getfield 31) 3 11 8 156 (2, 49, 0) :: zE 16 (.iload_n 2) 1 :: es) σ [vR 11 0, vI x1, vI x2] [] = zev cc_X11_dutyNow G 0 krI es σ [vR 11 0, vI x1, vI x2] [vI x2, vR 49 0] := rfl
theorem t_X11_dutyNow_18 {G : Nat → zH → List zAV → List zAV → Option (zH × Int32)} (es : List zEnt) (σ : zH) (x1 : Int32) (x2 : Int32) (xs0 : Int32)   : zev cc_X11_dutyNow G 0 krI (zE 18 (.iload_n 1) 1 :: es) σ [vR 11 0, vI x1, vI x2] [vI xs0] = zev cc_X11_dutyNow G 0 krI es σ [vR 11 0, vI x1, vI x2] [vI x1, vI xs0] := rfl
theorem t_X11_dutyNow_22 {G : Nat → zH → List zAV → List zAV → Option (zH × Int32)} (es : List zEnt) (σ : zH) (x1 : Int32) (x2 : Int32)  (w26 : Int32) : zev cc_X11_dutyNow G 0 krI (zE 22 (.aload_n 0) 1 :: zEf 23 (.getfield 7) 3 11 1 149 (2, 42, 0) :: zEk 26 (.iconst 4) 1 w26 :: es) σ [vR 11 0, vI x1, vI x2] [] = zev cc_X11_dutyNow G 0 krI es σ [vR 11 0, vI x1, vI x2] [vI w26, vR 42 0] := rfl
theorem t_X11_dutyNow_28 {G : Nat → zH → List zAV → List zAV → Option (zH × Int32)} (es : List zEnt) (σ : zH) (x1 : Int32) (x2 : Int32) (xs0 : Int32)  (w28 : Int32) : zev cc_X11_dutyNow G 0 krI (zEk 28 (.bipush 96) 2 w28 :: es) σ [vR 11 0, vI x1, vI x2] [vI xs0] = zev cc_X11_dutyNow G 0 krI es σ [vR 11 0, vI x1, vI x2] [vI w28, vI xs0] := rfl
theorem t_X11_dutyNow_31 {G : Nat → zH → List zAV → List zAV → Option (zH × Int32)} (es : List zEnt) (σ : zH) (x1 : Int32) (x2 : Int32) (xs0 : Int32)   : zev cc_X11_dutyNow G 0 krI (zE 31 .i2l 1 :: zE 32 (.aload_n 0) 1 :: zEf 33 (.getfield 34) 3 11 9 157 (2, 50, 0) :: zE 36 (.iload_n 2) 1 :: es) σ [vR 11 0, vI x1, vI x2] [vI xs0] = zev cc_X11_dutyNow G 0 krI es σ [vR 11 0, vI x1, vI x2] [vI x2, vR 50 0, vL xs0.toInt64] := rfl
theorem t_X11_dutyNow_38 {G : Nat → zH → List zAV → List zAV → Option (zH × Int32)} (es : List zEnt) (σ : zH) (x1 : Int32) (x2 : Int32) (zs0 : Int64) (xs1 : Int32)   : zev cc_X11_dutyNow G 0 krI (zE 38 .i2l 1 :: zE 39 (.aload_n 0) 1 :: zEf 40 (.getfield 37) 3 11 10 158 (2, 51, 0) :: zE 43 (.iload_n 2) 1 :: es) σ [vR 11 0, vI x1, vI x2] [vI xs1, vL zs0] = zev cc_X11_dutyNow G 0 krI es σ [vR 11 0, vI x1, vI x2] [vI x2, vR 51 0, vL xs1.toInt64, vL zs0] := rfl
theorem t_X11_dutyNow_45 {G : Nat → zH → List zAV → List zAV → Option (zH × Int32)} (es : List zEnt) (σ : zH) (x1 : Int32) (x2 : Int32) (zs0 : Int64) (zs1 : Int64) (xs2 : Int32)   : zev cc_X11_dutyNow G 0 krI (zE 45 .i2l 1 :: es) σ [vR 11 0, vI x1, vI x2] [vI xs2, vL zs1, vL zs0] = zev cc_X11_dutyNow G 0 krI es σ [vR 11 0, vI x1, vI x2] [vL xs2.toInt64, vL zs1, vL zs0] := rfl
theorem t_X11_dutyNow_52 {G : Nat → zH → List zAV → List zAV → Option (zH × Int32)} (es : List zEnt) (σ : zH) (x2 : Int32) (y0 : zAV) (y1 : zAV)  : zev cc_X11_dutyNow G 0 krI (zE 52 (.iload_n 2) 1 :: es) σ [y0, y1, vI x2] [] = zev cc_X11_dutyNow G 0 krI es σ [y0, y1, vI x2] [vI x2] := rfl
theorem t_X11_dutyNow_54 {G : Nat → zH → List zAV → List zAV → Option (zH × Int32)} (es : List zEnt) (σ : zH) (x1 : Int32) (x2 : Int32)  (w54 : Int32) : zev cc_X11_dutyNow G 0 krI (zEk 54 (.iinc 2 1) 3 w54 :: es) σ [vR 11 0, vI x1, vI x2] [] = zev cc_X11_dutyNow G 0 krI es σ [vR 11 0, vI x1, vI (x2 + w54)] [] := rfl
theorem t_X11_dutyNow_60 {G : Nat → zH → List zAV → List zAV → Option (zH × Int32)} (es : List zEnt) (σ : zH)  (y0 : zAV) (y1 : zAV) (y2 : zAV) (w60 : Int32) : zev cc_X11_dutyNow G 0 krI (zEk 60 (.iconst (-1)) 1 w60 :: es) σ [y0, y1, y2] [] = zev cc_X11_dutyNow G 0 krI es σ [y0, y1, y2] [vI w60] := rfl
noncomputable def k_X11_dutyNow_2  : Nat → zH → Int32 → Int32 → Option (zH × Int32)
  | 0, _, _, _ => none
  | n + 1, σ, x1, x2 =>
    if x2 < (σ.1 42 0 2) then
      ix x2 8 fun j1 =>
      if (σ.1 49 0 j1) = x1 then
        ix x2 8 fun j2 =>
        ix x2 8 fun j3 =>
        (d_X11_in σ (((σ.1 42 0 4) - (σ.1 42 0 4) / (96 : Int32) * (96 : Int32)).toInt64) ((σ.1 50 0 j2).toInt64) ((σ.1 51 0 j3).toInt64)).bind fun p4 =>
        if p4.2 = 0 then
          (k_X11_dutyNow_2 n) p4.1 x1 (x2 + (1 : Int32))
        else
          some (p4.1, x2)
      else
        (k_X11_dutyNow_2 n) σ x1 (x2 + (1 : Int32))
    else
      some (σ, (-1 : Int32))
theorem e_X11_dutyNow_2  (n : Nat) (σ : zH) (x1 : Int32) (x2 : Int32)  : k_X11_dutyNow_2 (n + 1) σ x1 x2 = zin cc_X11_dutyNow (fun t => if t = 2 then some (gl_X11_dutyNow_2 (k_X11_dutyNow_2 n)) else none) 0 krI b_X11_dutyNow 2 σ [vR 11 0, vI x1, vI x2] [] := by
  rw [k_X11_dutyNow_2]
  refine Eq.symm ((zin_b (es := q_X11_dutyNow_2) rfl).trans ?_)
  refine (t_X11_dutyNow_2 _ _ _ _ _).trans ?_
  refine ((x_iald (N := 11) rfl rfl).trans (ix_l 2 (by decide +kernel))).trans ?_
  refine x_icmp.trans (pif_ge ?_ ?_)
  · refine (zrun_b (es := q_X11_dutyNow_60) rfl rfl).trans ?_
    refine (t_X11_dutyNow_60 _ _ _ _ _ _).trans ?_
    exact x_iret
  · refine (t_X11_dutyNow_12 _ _ _ _).trans ?_
    refine (x_iald (N := 8) rfl rfl).trans (pix fun _ => ?_)
    refine (t_X11_dutyNow_18 _ _ _ _ _).trans ?_
    refine x_icmp.trans (pif_ne ?_ ?_)
    · refine (zrun_b (es := q_X11_dutyNow_54) rfl rfl).trans ?_
      refine (t_X11_dutyNow_54 _ _ _ _ _).trans ?_
      refine x_goto.trans ?_
      exact (zrun_c rfl).trans (glr_X11_dutyNow_2 _ _ _ _)
    · refine (t_X11_dutyNow_22 _ _ _ _ _).trans ?_
      refine ((x_iald (N := 11) rfl rfl).trans (ix_l 4 (by decide +kernel))).trans ?_
      refine (t_X11_dutyNow_28 _ _ _ _ _ _).trans ?_
      refine (x_irem.trans (nz_l (by decide +kernel))).trans ?_
      refine (t_X11_dutyNow_31 _ _ _ _ _).trans ?_
      refine (x_iald (N := 8) rfl rfl).trans (pix fun _ => ?_)
      refine (t_X11_dutyNow_38 _ _ _ _ _ _).trans ?_
      refine (x_iald (N := 8) rfl rfl).trans (pix fun _ => ?_)
      refine (t_X11_dutyNow_45 _ _ _ _ _ _ _).trans ?_
      refine (x_callS rfl rfl rfl rfl).trans ((cl_X11_dutyNow_X11_in _ _ _).trans ((gr_X11_in _ _ _ _ _).trans (pbd fun _ => ?_)))
      refine x_if.trans (pif_eq ?_ ?_)
      · refine (zrun_b (es := q_X11_dutyNow_54) rfl rfl).trans ?_
        refine (t_X11_dutyNow_54 _ _ _ _ _).trans ?_
        refine x_goto.trans ?_
        exact (zrun_c rfl).trans (glr_X11_dutyNow_2 _ _ _ _)
      · refine (t_X11_dutyNow_52 _ _ _ _ _).trans ?_
        exact x_iret
theorem s_X11_dutyNow_2 {X : zX} (hX : zHX X)   : ∀ n σ L st r, gl_X11_dutyNow_2 (k_X11_dutyNow_2 n) σ L st = some r → zGW X 173 krI 2 σ L st r := by
  intro n
  induction n with
  | zero =>
    intro σ L st r h
    unfold gl_X11_dutyNow_2 at h
    split at h <;> cases h
  | succ n ih =>
    intro σ L st r h
    unfold gl_X11_dutyNow_2 at h
    split at h
    · exact zin_ok (hy_X11_dutyNow hX) bk_X11_dutyNow (fun t f hf => by
      by_cases e2 : t = 2
      · rw [if_pos e2] at hf; subst e2; cases hf; exact ih
      rw [if_neg e2] at hf
      cases hf) ((e_X11_dutyNow_2 _ _ _ _).symm.trans h)
    · cases h
noncomputable def d_X11_dutyNow (σ : zH) (xa1 : Int32) : Option (zH × Int32) :=
  (k_X11_dutyNow_2 zN) σ xa1 (0 : Int32)
theorem e_X11_dutyNow (σ : zH) (xa1 : Int32) : d_X11_dutyNow σ xa1 = zin cc_X11_dutyNow (fun t => if t = 2 then some (gl_X11_dutyNow_2 (k_X11_dutyNow_2 zN)) else none) 0 krI b_X11_dutyNow 0 σ [vR 11 0, vI xa1, vU] [] := by
  unfold d_X11_dutyNow
  refine Eq.symm ((zin_b (es := q_X11_dutyNow_0) rfl).trans ?_)
  refine (t_X11_dutyNow_0 _ _ _ _ _).trans ?_
  refine x_cut.trans ?_
  exact (zrun_c rfl).trans (glr_X11_dutyNow_2 _ _ _ _)
noncomputable def g_X11_dutyNow {ρ : Type} (σ : zH) (av : List zAV) (q : zH → zAV → Option ρ) : Option ρ := match av with
  | [.inr (.inr (.inl (11, 0))), .inl xa1] => (d_X11_dutyNow σ xa1).bind fun p => q p.1 (vI p.2)
  | _ => none
theorem gr_X11_dutyNow {ρ : Type} (σ : zH) (xa1 : Int32) (q : zH → zAV → Option ρ) : g_X11_dutyNow σ [vR 11 0, vI xa1] q = (d_X11_dutyNow σ xa1).bind fun p => q p.1 (vI p.2) := rfl
theorem c_X11_dutyNow {ρ : Type} {X : zX} (hX : zHX X) {σ : zH} {av : List zAV} {q : zH → zAV → Option ρ} {r : ρ} (h : g_X11_dutyNow σ av q = some r) (hv : ∀ a ∈ av, zval X a) : zcon X 173 σ av q r := by
  unfold g_X11_dutyNow at h
  split at h
  · exact zcon_I (n := 173) (ml := 3) (rc := 0) (st := 0) (kd := 11) (np := 1) (by decide +kernel) (by decide) ⟨_, _, rfl, rfl⟩ (Nat.le_of_ble_eq_true rfl) hv h (fun y h1 => (zin_ok (hy_X11_dutyNow hX) bk_X11_dutyNow (fun t f hf => by
      by_cases e2 : t = 2
      · rw [if_pos e2] at hf; subst e2; cases hf; exact ((fun σ L st r h => s_X11_dutyNow_2 hX  zN σ L st r h))
      rw [if_neg e2] at hf
      cases hf) ((e_X11_dutyNow _ _).symm.trans h1)))
  · cases h
/-! SleepWavesModel.isFeast()Z -/
def q_X11_isFeast_17 : List zEnt := zEa 17 (.goto 4) 3 21 :: []
def q_X11_isFeast_16 : List zEnt := zEk 16 (.iconst 1) 1 1 :: q_X11_isFeast_17
def q_X11_isFeast_13 : List zEnt := zEa 13 (.if_icmp .ge 7) 3 20 :: q_X11_isFeast_16
def q_X11_isFeast_12 : List zEnt := zE 12 .iaload 1 :: q_X11_isFeast_13
def q_X11_isFeast_6 : List zEnt := zE 6 (.aload_n 0) 1 :: zEf 7 (.getfield 7) 3 11 1 149 (2, 42, 0) :: zEk 10 (.bipush 8) 2 8 :: q_X11_isFeast_12
def q_X11_isFeast_5 : List zEnt := zE 5 .iaload 1 :: q_X11_isFeast_6
def q_X11_isFeast_0 : List zEnt := zE 0 (.aload_n 0) 1 :: zEf 1 (.getfield 7) 3 11 1 149 (2, 42, 0) :: zEk 4 (.iconst 4) 1 4 :: q_X11_isFeast_5
def q_X11_isFeast_21 : List zEnt := zE 21 .ireturn 1 :: []
def q_X11_isFeast_20 : List zEnt := zEk 20 (.iconst 0) 1 0 :: q_X11_isFeast_21
def b_X11_isFeast : List (Nat × List zEnt) := [(0, q_X11_isFeast_0), (20, q_X11_isFeast_20), (21, q_X11_isFeast_21)]
theorem bk_X11_isFeast : zchB 174 b_X11_isFeast = true := by decide +kernel
theorem hy_X11_isFeast {ρ : Type} {X : zX} (hX : zHX X) : zHY X 174 (zc0 (ρ := ρ)) := zHX.hY hX (zc0_ok X) (zmok_all 174 (by decide))
theorem t_X11_isFeast_0 {G : Nat → zH → List zAV → List zAV → Option (zH × Int32)} (es : List zEnt) (σ : zH)   (w4 : Int32) : zev zc0 G 1 krI (zE 0 (.aload_n 0) 1 :: zEf 1 (.getfield 7) 3 11 1 149 (2, 42, 0) :: zEk 4 (.iconst 4) 1 w4 :: es) σ [vR 11 0] [] = zev zc0 G 1 krI es σ [vR 11 0] [vI w4, vR 42 0] := rfl
theorem t_X11_isFeast_6 {G : Nat → zH → List zAV → List zAV → Option (zH × Int32)} (es : List zEnt) (σ : zH) (xs0 : Int32)  (w10 : Int32) : zev zc0 G 1 krI (zE 6 (.aload_n 0) 1 :: zEf 7 (.getfield 7) 3 11 1 149 (2, 42, 0) :: zEk 10 (.bipush 8) 2 w10 :: es) σ [vR 11 0] [vI xs0] = zev zc0 G 1 krI es σ [vR 11 0] [vI w10, vR 42 0, vI xs0] := rfl
theorem t_X11_isFeast_16 {G : Nat → zH → List zAV → List zAV → Option (zH × Int32)} (es : List zEnt) (σ : zH)  (y0 : zAV) (w16 : Int32) : zev zc0 G 1 krI (zEk 16 (.iconst 1) 1 w16 :: es) σ [y0] [] = zev zc0 G 1 krI es σ [y0] [vI w16] := rfl
theorem t_X11_isFeast_20 {G : Nat → zH → List zAV → List zAV → Option (zH × Int32)} (es : List zEnt) (σ : zH)  (y0 : zAV) (w20 : Int32) : zev zc0 G 1 krI (zEk 20 (.iconst 0) 1 w20 :: es) σ [y0] [] = zev zc0 G 1 krI es σ [y0] [vI w20] := rfl
noncomputable def d_X11_isFeast (σ : zH)  : Option (zH × Int32) :=
  if (σ.1 42 0 4) < (σ.1 42 0 8) then
    some (σ, (1 : Int32))
  else
    some (σ, (0 : Int32))
theorem e_X11_isFeast (σ : zH)  : d_X11_isFeast σ = zin zc0 (fun t => none) 1 krI b_X11_isFeast 0 σ [vR 11 0] [] := by
  unfold d_X11_isFeast
  refine Eq.symm ((zin_b (es := q_X11_isFeast_0) rfl).trans ?_)
  refine (t_X11_isFeast_0 _ _ _).trans ?_
  refine ((x_iald (N := 11) rfl rfl).trans (ix_l 4 (by decide +kernel))).trans ?_
  refine (t_X11_isFeast_6 _ _ _ _).trans ?_
  refine ((x_iald (N := 11) rfl rfl).trans (ix_l 8 (by decide +kernel))).trans ?_
  refine x_icmp.trans (pif_ge ?_ ?_)
  · refine (zrun_b (es := q_X11_isFeast_20) rfl rfl).trans ?_
    refine (t_X11_isFeast_20 _ _ _ _).trans ?_
    exact x_zret.trans (tv_l (by decide +kernel))
  · refine (t_X11_isFeast_16 _ _ _ _).trans ?_
    refine x_goto.trans ?_
    refine (zrun_b (es := q_X11_isFeast_21) rfl rfl).trans ?_
    exact x_zret.trans (tv_l (by decide +kernel))
noncomputable def g_X11_isFeast {ρ : Type} (σ : zH) (av : List zAV) (q : zH → zAV → Option ρ) : Option ρ := match av with
  | [.inr (.inr (.inl (11, 0)))] => (d_X11_isFeast σ).bind fun p => q p.1 (vI p.2)
  | _ => none
theorem gr_X11_isFeast {ρ : Type} (σ : zH)  (q : zH → zAV → Option ρ) : g_X11_isFeast σ [vR 11 0] q = (d_X11_isFeast σ).bind fun p => q p.1 (vI p.2) := rfl
theorem c_X11_isFeast {ρ : Type} {X : zX} (hX : zHX X) {σ : zH} {av : List zAV} {q : zH → zAV → Option ρ} {r : ρ} (h : g_X11_isFeast σ av q = some r) (hv : ∀ a ∈ av, zval X a) : zcon X 174 σ av q r := by
  unfold g_X11_isFeast at h
  split at h
  · exact zcon_I (n := 174) (ml := 1) (rc := 1) (st := 0) (kd := 11) (np := 0) (by decide +kernel) (by decide) ⟨_, _, rfl, rfl⟩ (Nat.le_of_ble_eq_true rfl) hv h (fun y h1 => (zin_ok (hy_X11_isFeast hX) bk_X11_isFeast (fun t f hf => by
      cases hf) ((e_X11_isFeast _).symm.trans h1)))
  · cases h
/-! SleepWavesModel.draws(I)I -/
def q_X11_draws_41 : List zEnt := zE 41 .ireturn 1 :: []
def q_X11_draws_40 : List zEnt := zE 40 .irem 1 :: q_X11_draws_41
def q_X11_draws_39 : List zEnt := zE 39 (.iload_n 1) 1 :: q_X11_draws_40
def q_X11_draws_38 : List zEnt := zE 38 .idiv 1 :: q_X11_draws_39
def q_X11_draws_35 : List zEnt := (35, (.ldc_w 375), 3, (0, 0, 1569, 0), (0, 0, 0), 65536, 0, []) :: q_X11_draws_38
def q_X11_draws_34 : List zEnt := zE 34 .iaload 1 :: q_X11_draws_35
def q_X11_draws_28 : List zEnt := zE 28 (.aload_n 0) 1 :: zEf 29 (.getfield 7) 3 11 1 149 (2, 42, 0) :: zEk 32 (.bipush 10) 2 10 :: q_X11_draws_34
def q_X11_draws_27 : List zEnt := zE 27 .iastore 1 :: q_X11_draws_28
def q_X11_draws_26 : List zEnt := zE 26 .l2i 1 :: q_X11_draws_27
def q_X11_draws_25 : List zEnt := zE 25 .lrem 1 :: q_X11_draws_26
def q_X11_draws_13 : List zEnt := zE 13 .i2l 1 :: (14, (.ldc2_w 369), 3, (0, 0, 1566, 0), (0, 0, 0), 0, 1103515245, []) :: zE 17 .lmul 1 :: (18, (.ldc2_w 371), 3, (0, 0, 1567, 0), (0, 0, 0), 0, 12345, []) :: zE 21 .ladd 1 :: (22, (.ldc2_w 373), 3, (0, 0, 1568, 0), (0, 0, 0), 0, 2147483648, []) :: q_X11_draws_25
def q_X11_draws_12 : List zEnt := zE 12 .iaload 1 :: q_X11_draws_13
def q_X11_draws_0 : List zEnt := zE 0 (.aload_n 0) 1 :: zEf 1 (.getfield 7) 3 11 1 149 (2, 42, 0) :: zEk 4 (.bipush 10) 2 10 :: zE 6 (.aload_n 0) 1 :: zEf 7 (.getfield 7) 3 11 1 149 (2, 42, 0) :: zEk 10 (.bipush 10) 2 10 :: q_X11_draws_12
def b_X11_draws : List (Nat × List zEnt) := [(0, q_X11_draws_0)]
theorem bk_X11_draws : zchB 175 b_X11_draws = true := by decide +kernel
theorem hy_X11_draws {ρ : Type} {X : zX} (hX : zHX X) : zHY X 175 (zc0 (ρ := ρ)) := zHX.hY hX (zc0_ok X) (zmok_all 175 (by decide))
theorem t_X11_draws_0 {G : Nat → zH → List zAV → List zAV → Option (zH × Int32)} (es : List zEnt) (σ : zH) (x1 : Int32)  (w4 : Int32) (w10 : Int32) : zev zc0 G 0 krI (zE 0 (.aload_n 0) 1 :: zEf 1 (.getfield 7) 3 11 1 149 (2, 42, 0) :: zEk 4 (.bipush 10) 2 w4 :: zE 6 (.aload_n 0) 1 :: zEf 7 (.getfield 7) 3 11 1 149 (2, 42, 0) :: zEk 10 (.bipush 10) 2 w10 :: es) σ [vR 11 0, vI x1] [] = zev zc0 G 0 krI es σ [vR 11 0, vI x1] [vI w10, vR 42 0, vI w4, vR 42 0] := rfl
theorem t_X11_draws_13 {G : Nat → zH → List zAV → List zAV → Option (zH × Int32)} (es : List zEnt) (σ : zH) (x1 : Int32) (xs1 : Int32) (xs2 : Int32)  (w14 : Int64) (w18 : Int64) (w22 : Int64) : zev zc0 G 0 krI (zE 13 .i2l 1 :: (14, (.ldc2_w 369), 3, (0, 0, 1566, 0), (0, 0, 0), 0, w14, []) :: zE 17 .lmul 1 :: (18, (.ldc2_w 371), 3, (0, 0, 1567, 0), (0, 0, 0), 0, w18, []) :: zE 21 .ladd 1 :: (22, (.ldc2_w 373), 3, (0, 0, 1568, 0), (0, 0, 0), 0, w22, []) :: es) σ [vR 11 0, vI x1] [vI xs2, vI xs1, vR 42 0] = zev zc0 G 0 krI es σ [vR 11 0, vI x1] [vL w22, vL ((xs2.toInt64 * w14) + w18), vI xs1, vR 42 0] := rfl
theorem t_X11_draws_26 {G : Nat → zH → List zAV → List zAV → Option (zH × Int32)} (es : List zEnt) (σ : zH) (x1 : Int32) (xs1 : Int32) (zs2 : Int64)   : zev zc0 G 0 krI (zE 26 .l2i 1 :: es) σ [vR 11 0, vI x1] [vL zs2, vI xs1, vR 42 0] = zev zc0 G 0 krI es σ [vR 11 0, vI x1] [vI zs2.toInt32, vI xs1, vR 42 0] := rfl
theorem t_X11_draws_28 {G : Nat → zH → List zAV → List zAV → Option (zH × Int32)} (es : List zEnt) (σ : zH) (x1 : Int32)  (w32 : Int32) : zev zc0 G 0 krI (zE 28 (.aload_n 0) 1 :: zEf 29 (.getfield 7) 3 11 1 149 (2, 42, 0) :: zEk 32 (.bipush 10) 2 w32 :: es) σ [vR 11 0, vI x1] [] = zev zc0 G 0 krI es σ [vR 11 0, vI x1] [vI w32, vR 42 0] := rfl
theorem t_X11_draws_35 {G : Nat → zH → List zAV → List zAV → Option (zH × Int32)} (es : List zEnt) (σ : zH) (x1 : Int32) (xs0 : Int32) (y0 : zAV) (w35 : Int32) : zev zc0 G 0 krI ((35, (.ldc_w 375), 3, (0, 0, 1569, 0), (0, 0, 0), w35, 0, []) :: es) σ [y0, vI x1] [vI xs0] = zev zc0 G 0 krI es σ [y0, vI x1] [vI w35, vI xs0] := rfl
theorem t_X11_draws_39 {G : Nat → zH → List zAV → List zAV → Option (zH × Int32)} (es : List zEnt) (σ : zH) (x1 : Int32) (xs0 : Int32) (y0 : zAV)  : zev zc0 G 0 krI (zE 39 (.iload_n 1) 1 :: es) σ [y0, vI x1] [vI xs0] = zev zc0 G 0 krI es σ [y0, vI x1] [vI x1, vI xs0] := rfl
noncomputable def d_X11_draws (σ : zH) (xa1 : Int32) : Option (zH × Int32) :=
  zlet (uI σ 42 0 10 (((((σ.1 42 0 10).toInt64 * (1103515245 : Int64)) + (12345 : Int64)) - (((σ.1 42 0 10).toInt64 * (1103515245 : Int64)) + (12345 : Int64)) / (2147483648 : Int64) * (2147483648 : Int64)).toInt32)) fun σ1 =>
  nz xa1 <| some (σ1, (((σ1.1 42 0 10) / (65536 : Int32)) - ((σ1.1 42 0 10) / (65536 : Int32)) / xa1 * xa1))
theorem e_X11_draws (σ : zH) (xa1 : Int32) : d_X11_draws σ xa1 = zin zc0 (fun t => none) 0 krI b_X11_draws 0 σ [vR 11 0, vI xa1] [] := by
  unfold d_X11_draws
  refine Eq.symm ((zin_b (es := q_X11_draws_0) rfl).trans ?_)
  refine (t_X11_draws_0 _ _ _ _ _).trans ?_
  refine ((x_iald (N := 11) rfl rfl).trans (ix_l 10 (by decide +kernel))).trans ?_
  refine (t_X11_draws_13 _ _ _ _ _ _ _ _).trans ?_
  refine (x_lrem.trans (nzL_l (by decide +kernel))).trans ?_
  refine (t_X11_draws_26 _ _ _ _ _).trans ?_
  refine (x_iast (N := 11) rfl rfl).trans ((ix_l 10 (by decide +kernel)).trans (plt fun _ => ?_))
  refine (t_X11_draws_28 _ _ _ _).trans ?_
  refine ((x_iald (N := 11) rfl rfl).trans (ix_l 10 (by decide +kernel))).trans ?_
  refine (t_X11_draws_35 _ _ _ _ _ _).trans ?_
  refine (x_idiv.trans (nz_l (by decide +kernel))).trans ?_
  refine (t_X11_draws_39 _ _ _ _ _).trans ?_
  refine x_irem.trans (pnz ?_)
  exact x_iret
noncomputable def g_X11_draws {ρ : Type} (σ : zH) (av : List zAV) (q : zH → zAV → Option ρ) : Option ρ := match av with
  | [.inr (.inr (.inl (11, 0))), .inl xa1] => (d_X11_draws σ xa1).bind fun p => q p.1 (vI p.2)
  | _ => none
theorem gr_X11_draws {ρ : Type} (σ : zH) (xa1 : Int32) (q : zH → zAV → Option ρ) : g_X11_draws σ [vR 11 0, vI xa1] q = (d_X11_draws σ xa1).bind fun p => q p.1 (vI p.2) := rfl
theorem c_X11_draws {ρ : Type} {X : zX} (hX : zHX X) {σ : zH} {av : List zAV} {q : zH → zAV → Option ρ} {r : ρ} (h : g_X11_draws σ av q = some r) (hv : ∀ a ∈ av, zval X a) : zcon X 175 σ av q r := by
  unfold g_X11_draws at h
  split at h
  · exact zcon_I (n := 175) (ml := 2) (rc := 0) (st := 0) (kd := 11) (np := 1) (by decide +kernel) (by decide) ⟨_, _, rfl, rfl⟩ (Nat.le_of_ble_eq_true rfl) hv h (fun y h1 => (zin_ok (hy_X11_draws hX) bk_X11_draws (fun t f hf => by
      cases hf) ((e_X11_draws _ _).symm.trans h1)))
  · cases h
/-! SleepWavesModel.neighbour(I)I -/
def q_X11_neighbour_6 : List zEnt := zE 6 (.istore_n 2) 1 :: zEk 7 (.iconst 1) 1 1 :: zE 8 (.istore_n 3) 1 :: [zE 9 .nop 0]
def q_X11_neighbour_5 : List zEnt := zE 5 .iaload 1 :: q_X11_neighbour_6
def q_X11_neighbour_0 : List zEnt := zE 0 (.aload_n 0) 1 :: zEf 1 (.getfield 7) 3 11 1 149 (2, 42, 0) :: zEk 4 (.iconst 0) 1 0 :: q_X11_neighbour_5
def q_X11_neighbour_50 : List zEnt := zE 50 .ireturn 1 :: []
def q_X11_neighbour_48 : List zEnt := zE 48 (.iload 4) 2 :: q_X11_neighbour_50
def q_X11_neighbour_45 : List zEnt := zEa 45 (.if_icmp .ne 6) 3 51 :: q_X11_neighbour_48
def q_X11_neighbour_44 : List zEnt := zE 44 .iaload 1 :: q_X11_neighbour_45
def q_X11_neighbour_39 : List zEnt := zE 39 (.aload_n 0) 1 :: zEf 40 (.getfield 16) 3 11 3 151 (2, 44, 0) :: zE 43 (.iload_n 1) 1 :: q_X11_neighbour_44
def q_X11_neighbour_38 : List zEnt := zE 38 .iaload 1 :: q_X11_neighbour_39
def q_X11_neighbour_32 : List zEnt := zE 32 (.aload_n 0) 1 :: zEf 33 (.getfield 16) 3 11 3 151 (2, 44, 0) :: zE 36 (.iload 4) 2 :: q_X11_neighbour_38
def q_X11_neighbour_29 : List zEnt := zEa 29 (.if_icmp .ne 22) 3 51 :: q_X11_neighbour_32
def q_X11_neighbour_28 : List zEnt := zEk 28 (.iconst 1) 1 1 :: q_X11_neighbour_29
def q_X11_neighbour_27 : List zEnt := zE 27 .iaload 1 :: q_X11_neighbour_28
def q_X11_neighbour_19 : List zEnt := zE 19 (.istore 4) 2 :: zE 21 (.aload_n 0) 1 :: zEf 22 (.getfield 70) 3 11 21 169 (2, 62, 0) :: zE 25 (.iload 4) 2 :: q_X11_neighbour_27
def q_X11_neighbour_18 : List zEnt := zE 18 .irem 1 :: q_X11_neighbour_19
def q_X11_neighbour_14 : List zEnt := zE 14 (.iload_n 1) 1 :: zE 15 (.iload_n 3) 1 :: zE 16 .iadd 1 :: zE 17 (.iload_n 2) 1 :: q_X11_neighbour_18
def q_X11_neighbour_11 : List zEnt := zEa 11 (.if_icmp .ge 46) 3 57 :: q_X11_neighbour_14
def q_X11_neighbour_9 : List zEnt := zE 9 (.iload_n 3) 1 :: zE 10 (.iload_n 2) 1 :: q_X11_neighbour_11
def q_X11_neighbour_54 : List zEnt := zEa 54 (.goto (-45)) 3 9 :: []
def q_X11_neighbour_51 : List zEnt := zEk 51 (.iinc 3 1) 3 1 :: q_X11_neighbour_54
def q_X11_neighbour_58 : List zEnt := zE 58 .ireturn 1 :: []
def q_X11_neighbour_57 : List zEnt := zEk 57 (.iconst (-1)) 1 (-1) :: q_X11_neighbour_58
def b_X11_neighbour : List (Nat × List zEnt) := [(0, q_X11_neighbour_0), (9, q_X11_neighbour_9), (51, q_X11_neighbour_51), (57, q_X11_neighbour_57)]
theorem bk_X11_neighbour : zchB 176 b_X11_neighbour = true := by decide +kernel
theorem hy_X11_neighbour {ρ : Type} {X : zX} (hX : zHX X) : zHY X 176 (zc0 (ρ := ρ)) := zHX.hY hX (zc0_ok X) (zmok_all 176 (by decide))
def gl_X11_neighbour_9 {ρ : Type} (f : zH → Int32 → Int32 → Int32 → Option ρ) (σ : zH) (L st : List zAV) : Option ρ := match L, st with
  | [.inr (.inr (.inl (11, 0))), .inl x1, .inl x2, .inl x3, _], [] => f σ x1 x2 x3
  | _, _ => none
theorem glr_X11_neighbour_9 {ρ : Type} (f : zH → Int32 → Int32 → Int32 → Option ρ) (σ : zH) (x1 : Int32) (x2 : Int32) (x3 : Int32) (y4 : zAV) : gl_X11_neighbour_9 f σ [vR 11 0, vI x1, vI x2, vI x3, y4] [] = f σ x1 x2 x3 := rfl
theorem t_X11_neighbour_0 {G : Nat → zH → List zAV → List zAV → Option (zH × Int32)} (es : List zEnt) (σ : zH) (x1 : Int32) (y2 : zAV) (y3 : zAV) (y4 : zAV) (w4 : Int32) : zev zc0 G 0 krI (zE 0 (.aload_n 0) 1 :: zEf 1 (.getfield 7) 3 11 1 149 (2, 42, 0) :: zEk 4 (.iconst 0) 1 w4 :: es) σ [vR 11 0, vI x1, y2, y3, y4] [] = zev zc0 G 0 krI es σ [vR 11 0, vI x1, y2, y3, y4] [vI w4, vR 42 0] := rfl
theorem t_X11_neighbour_6 {G : Nat → zH → List zAV → List zAV → Option (zH × Int32)} (es : List zEnt) (σ : zH) (x1 : Int32) (xs0 : Int32) (y2 : zAV) (y3 : zAV) (y4 : zAV) (w7 : Int32) : zev zc0 G 0 krI (zE 6 (.istore_n 2) 1 :: zEk 7 (.iconst 1) 1 w7 :: zE 8 (.istore_n 3) 1 :: es) σ [vR 11 0, vI x1, y2, y3, y4] [vI xs0] = zev zc0 G 0 krI es σ [vR 11 0, vI x1, vI xs0, vI w7, y4] [] := rfl
theorem t_X11_neighbour_9 {G : Nat → zH → List zAV → List zAV → Option (zH × Int32)} (es : List zEnt) (σ : zH) (x1 : Int32) (x2 : Int32) (x3 : Int32) (y4 : zAV)  : zev zc0 G 0 krI (zE 9 (.iload_n 3) 1 :: zE 10 (.iload_n 2) 1 :: es) σ [vR 11 0, vI x1, vI x2, vI x3, y4] [] = zev zc0 G 0 krI es σ [vR 11 0, vI x1, vI x2, vI x3, y4] [vI x2, vI x3] := rfl
theorem t_X11_neighbour_14 {G : Nat → zH → List zAV → List zAV → Option (zH × Int32)} (es : List zEnt) (σ : zH) (x1 : Int32) (x2 : Int32) (x3 : Int32) (y4 : zAV)  : zev zc0 G 0 krI (zE 14 (.iload_n 1) 1 :: zE 15 (.iload_n 3) 1 :: zE 16 .iadd 1 :: zE 17 (.iload_n 2) 1 :: es) σ [vR 11 0, vI x1, vI x2, vI x3, y4] [] = zev zc0 G 0 krI es σ [vR 11 0, vI x1, vI x2, vI x3, y4] [vI x2, vI (x1 + x3)] := rfl
theorem t_X11_neighbour_19 {G : Nat → zH → List zAV → List zAV → Option (zH × Int32)} (es : List zEnt) (σ : zH) (x1 : Int32) (x2 : Int32) (x3 : Int32) (xs0 : Int32) (y4 : zAV)  : zev zc0 G 0 krI (zE 19 (.istore 4) 2 :: zE 21 (.aload_n 0) 1 :: zEf 22 (.getfield 70) 3 11 21 169 (2, 62, 0) :: zE 25 (.iload 4) 2 :: es) σ [vR 11 0, vI x1, vI x2, vI x3, y4] [vI xs0] = zev zc0 G 0 krI es σ [vR 11 0, vI x1, vI x2, vI x3, vI xs0] [vI xs0, vR 62 0] := rfl
theorem t_X11_neighbour_28 {G : Nat → zH → List zAV → List zAV → Option (zH × Int32)} (es : List zEnt) (σ : zH) (x1 : Int32) (x2 : Int32) (x3 : Int32) (x4 : Int32) (xs0 : Int32)  (w28 : Int32) : zev zc0 G 0 krI (zEk 28 (.iconst 1) 1 w28 :: es) σ [vR 11 0, vI x1, vI x2, vI x3, vI x4] [vI xs0] = zev zc0 G 0 krI es σ [vR 11 0, vI x1, vI x2, vI x3, vI x4] [vI w28, vI xs0] := rfl
theorem t_X11_neighbour_32 {G : Nat → zH → List zAV → List zAV → Option (zH × Int32)} (es : List zEnt) (σ : zH) (x1 : Int32) (x2 : Int32) (x3 : Int32) (x4 : Int32)   : zev zc0 G 0 krI (zE 32 (.aload_n 0) 1 :: zEf 33 (.getfield 16) 3 11 3 151 (2, 44, 0) :: zE 36 (.iload 4) 2 :: es) σ [vR 11 0, vI x1, vI x2, vI x3, vI x4] [] = zev zc0 G 0 krI es σ [vR 11 0, vI x1, vI x2, vI x3, vI x4] [vI x4, vR 44 0] := rfl
theorem t_X11_neighbour_39 {G : Nat → zH → List zAV → List zAV → Option (zH × Int32)} (es : List zEnt) (σ : zH) (x1 : Int32) (x2 : Int32) (x3 : Int32) (x4 : Int32) (xs0 : Int32)   : zev zc0 G 0 krI (zE 39 (.aload_n 0) 1 :: zEf 40 (.getfield 16) 3 11 3 151 (2, 44, 0) :: zE 43 (.iload_n 1) 1 :: es) σ [vR 11 0, vI x1, vI x2, vI x3, vI x4] [vI xs0] = zev zc0 G 0 krI es σ [vR 11 0, vI x1, vI x2, vI x3, vI x4] [vI x1, vR 44 0, vI xs0] := rfl
theorem t_X11_neighbour_48 {G : Nat → zH → List zAV → List zAV → Option (zH × Int32)} (es : List zEnt) (σ : zH) (x4 : Int32) (y0 : zAV) (y1 : zAV) (y2 : zAV) (y3 : zAV)  : zev zc0 G 0 krI (zE 48 (.iload 4) 2 :: es) σ [y0, y1, y2, y3, vI x4] [] = zev zc0 G 0 krI es σ [y0, y1, y2, y3, vI x4] [vI x4] := rfl
theorem t_X11_neighbour_51 {G : Nat → zH → List zAV → List zAV → Option (zH × Int32)} (es : List zEnt) (σ : zH) (x1 : Int32) (x2 : Int32) (x3 : Int32) (y4 : zAV) (w51 : Int32) : zev zc0 G 0 krI (zEk 51 (.iinc 3 1) 3 w51 :: es) σ [vR 11 0, vI x1, vI x2, vI x3, y4] [] = zev zc0 G 0 krI es σ [vR 11 0, vI x1, vI x2, vI (x3 + w51), y4] [] := rfl
theorem t_X11_neighbour_57 {G : Nat → zH → List zAV → List zAV → Option (zH × Int32)} (es : List zEnt) (σ : zH)  (y0 : zAV) (y1 : zAV) (y2 : zAV) (y3 : zAV) (y4 : zAV) (w57 : Int32) : zev zc0 G 0 krI (zEk 57 (.iconst (-1)) 1 w57 :: es) σ [y0, y1, y2, y3, y4] [] = zev zc0 G 0 krI es σ [y0, y1, y2, y3, y4] [vI w57] := rfl
noncomputable def k_X11_neighbour_9  : Nat → zH → Int32 → Int32 → Int32 → Option (zH × Int32)
  | 0, _, _, _, _ => none
  | n + 1, σ, x1, x2, x3 =>
    if x3 < x2 then
      nz x2 <| ix ((x1 + x3) - (x1 + x3) / x2 * x2) 12 fun j1 =>
      if (σ.1 62 0 j1) = (1 : Int32) then
        ix ((x1 + x3) - (x1 + x3) / x2 * x2) 12 fun j2 =>
        ix x1 12 fun j3 =>
        if (σ.1 44 0 j2) = (σ.1 44 0 j3) then
          some (σ, ((x1 + x3) - (x1 + x3) / x2 * x2))
        else
          (k_X11_neighbour_9 n) σ x1 x2 (x3 + (1 : Int32))
      else
        (k_X11_neighbour_9 n) σ x1 x2 (x3 + (1 : Int32))
    else
      some (σ, (-1 : Int32))
theorem e_X11_neighbour_9  (n : Nat) (σ : zH) (x1 : Int32) (x2 : Int32) (x3 : Int32) (y4 : zAV) : k_X11_neighbour_9 (n + 1) σ x1 x2 x3 = zin zc0 (fun t => if t = 9 then some (gl_X11_neighbour_9 (k_X11_neighbour_9 n)) else none) 0 krI b_X11_neighbour 9 σ [vR 11 0, vI x1, vI x2, vI x3, y4] [] := by
  rw [k_X11_neighbour_9]
  refine Eq.symm ((zin_b (es := q_X11_neighbour_9) rfl).trans ?_)
  refine (t_X11_neighbour_9 _ _ _ _ _ _).trans ?_
  refine x_icmp.trans (pif_ge ?_ ?_)
  · refine (zrun_b (es := q_X11_neighbour_57) rfl rfl).trans ?_
    refine (t_X11_neighbour_57 _ _ _ _ _ _ _ _).trans ?_
    exact x_iret
  · refine (t_X11_neighbour_14 _ _ _ _ _ _).trans ?_
    refine x_irem.trans (pnz ?_)
    refine (t_X11_neighbour_19 _ _ _ _ _ _ _).trans ?_
    refine (x_iald (N := 12) rfl rfl).trans (pix fun _ => ?_)
    refine (t_X11_neighbour_28 _ _ _ _ _ _ _ _).trans ?_
    refine x_icmp.trans (pif_ne ?_ ?_)
    · refine (zrun_b (es := q_X11_neighbour_51) rfl rfl).trans ?_
      refine (t_X11_neighbour_51 _ _ _ _ _ _ _).trans ?_
      refine x_goto.trans ?_
      exact (zrun_c rfl).trans (glr_X11_neighbour_9 _ _ _ _ _ _)
    · refine (t_X11_neighbour_32 _ _ _ _ _ _).trans ?_
      refine (x_iald (N := 12) rfl rfl).trans (pix fun _ => ?_)
      refine (t_X11_neighbour_39 _ _ _ _ _ _ _).trans ?_
      refine (x_iald (N := 12) rfl rfl).trans (pix fun _ => ?_)
      refine x_icmp.trans (pif_ne ?_ ?_)
      · refine (zrun_b (es := q_X11_neighbour_51) rfl rfl).trans ?_
        refine (t_X11_neighbour_51 _ _ _ _ _ _ _).trans ?_
        refine x_goto.trans ?_
        exact (zrun_c rfl).trans (glr_X11_neighbour_9 _ _ _ _ _ _)
      · refine (t_X11_neighbour_48 _ _ _ _ _ _ _).trans ?_
        exact x_iret
theorem s_X11_neighbour_9 {X : zX} (hX : zHX X)   : ∀ n σ L st r, gl_X11_neighbour_9 (k_X11_neighbour_9 n) σ L st = some r → zGW X 176 krI 9 σ L st r := by
  intro n
  induction n with
  | zero =>
    intro σ L st r h
    unfold gl_X11_neighbour_9 at h
    split at h <;> cases h
  | succ n ih =>
    intro σ L st r h
    unfold gl_X11_neighbour_9 at h
    split at h
    · exact zin_ok (hy_X11_neighbour hX) bk_X11_neighbour (fun t f hf => by
      by_cases e9 : t = 9
      · rw [if_pos e9] at hf; subst e9; cases hf; exact ih
      rw [if_neg e9] at hf
      cases hf) ((e_X11_neighbour_9 _ _ _ _ _ _).symm.trans h)
    · cases h
noncomputable def d_X11_neighbour (σ : zH) (xa1 : Int32) : Option (zH × Int32) :=
  (k_X11_neighbour_9 zN) σ xa1 (σ.1 42 0 0) (1 : Int32)
theorem e_X11_neighbour (σ : zH) (xa1 : Int32) : d_X11_neighbour σ xa1 = zin zc0 (fun t => if t = 9 then some (gl_X11_neighbour_9 (k_X11_neighbour_9 zN)) else none) 0 krI b_X11_neighbour 0 σ [vR 11 0, vI xa1, vU, vU, vU] [] := by
  unfold d_X11_neighbour
  refine Eq.symm ((zin_b (es := q_X11_neighbour_0) rfl).trans ?_)
  refine (t_X11_neighbour_0 _ _ _ _ _ _ _).trans ?_
  refine ((x_iald (N := 11) rfl rfl).trans (ix_l 0 (by decide +kernel))).trans ?_
  refine (t_X11_neighbour_6 _ _ _ _ _ _ _ _).trans ?_
  refine x_cut.trans ?_
  exact (zrun_c rfl).trans (glr_X11_neighbour_9 _ _ _ _ _ _)
noncomputable def g_X11_neighbour {ρ : Type} (σ : zH) (av : List zAV) (q : zH → zAV → Option ρ) : Option ρ := match av with
  | [.inr (.inr (.inl (11, 0))), .inl xa1] => (d_X11_neighbour σ xa1).bind fun p => q p.1 (vI p.2)
  | _ => none
theorem gr_X11_neighbour {ρ : Type} (σ : zH) (xa1 : Int32) (q : zH → zAV → Option ρ) : g_X11_neighbour σ [vR 11 0, vI xa1] q = (d_X11_neighbour σ xa1).bind fun p => q p.1 (vI p.2) := rfl
theorem c_X11_neighbour {ρ : Type} {X : zX} (hX : zHX X) {σ : zH} {av : List zAV} {q : zH → zAV → Option ρ} {r : ρ} (h : g_X11_neighbour σ av q = some r) (hv : ∀ a ∈ av, zval X a) : zcon X 176 σ av q r := by
  unfold g_X11_neighbour at h
  split at h
  · exact zcon_I (n := 176) (ml := 5) (rc := 0) (st := 0) (kd := 11) (np := 1) (by decide +kernel) (by decide) ⟨_, _, rfl, rfl⟩ (Nat.le_of_ble_eq_true rfl) hv h (fun y h1 => (zin_ok (hy_X11_neighbour hX) bk_X11_neighbour (fun t f hf => by
      by_cases e9 : t = 9
      · rw [if_pos e9] at hf; subst e9; cases hf; exact ((fun σ L st r h => s_X11_neighbour_9 hX  zN σ L st r h))
      rw [if_neg e9] at hf
      cases hf) ((e_X11_neighbour _ _).symm.trans h1)))
  · cases h
