/-! SleepWaves$LawReader.closeBracket()V -/
def q_X5_closeBracket_24 : List zEnt := zE 24 .return_ 1 :: []
def q_X5_closeBracket_21 : List zEnt := zEf 21 (.putfield 37) 3 5 6 27 (0, 0, 0) :: q_X5_closeBracket_24
def q_X5_closeBracket_10 : List zEnt := zE 10 (.aload_n 0) 1 :: zEk 11 (.iconst 0) 1 0 :: zE 12 (.aload_n 0) 1 :: zEf 13 (.getfield 37) 3 5 6 27 (0, 0, 0) :: zEk 16 (.iconst 1) 1 1 :: zE 17 .isub 1 :: zEc 18 (.invokestatic 145) 3 9002 0 782 0 :: q_X5_closeBracket_21
def q_X5_closeBracket_7 : List zEnt := zEf 7 (.putfield 40) 3 5 7 28 (0, 0, 0) :: q_X5_closeBracket_10
def q_X5_closeBracket_0 : List zEnt := zE 0 (.aload_n 0) 1 :: zE 1 .dup 1 :: zEf 2 (.getfield 40) 3 5 7 28 (0, 0, 0) :: zEk 5 (.iconst 1) 1 1 :: zE 6 .isub 1 :: q_X5_closeBracket_7
def b_X5_closeBracket : List (Nat × List zEnt) := [(0, q_X5_closeBracket_0)]
theorem bk_X5_closeBracket : zchB 49 b_X5_closeBracket = true := by decide +kernel
theorem hy_X5_closeBracket {ρ : Type} {X : zX} (hX : zHX X) : zHY X 49 (zc0 (ρ := ρ)) := zHX.hY hX (zc0_ok X) (zmok_all 49 (by decide))
theorem t_X5_closeBracket_0 {G : Nat → zH → List zAV → List zAV → Option zH} (es : List zEnt) (σ : zH)   (w5 : Int32) : zev zc0 G 9 krV (zE 0 (.aload_n 0) 1 :: zE 1 .dup 1 :: zEf 2 (.getfield 40) 3 5 7 28 (0, 0, 0) :: zEk 5 (.iconst 1) 1 w5 :: zE 6 .isub 1 :: es) σ [vR 5 0] [] = zev zc0 G 9 krV es σ [vR 5 0] [vI ((σ.1 5 0 7) - w5), vR 5 0] := rfl
theorem t_X5_closeBracket_10 {G : Nat → zH → List zAV → List zAV → Option zH} (es : List zEnt) (σ : zH)   (w11 : Int32) (w16 : Int32) : zev zc0 G 9 krV (zE 10 (.aload_n 0) 1 :: zEk 11 (.iconst 0) 1 w11 :: zE 12 (.aload_n 0) 1 :: zEf 13 (.getfield 37) 3 5 6 27 (0, 0, 0) :: zEk 16 (.iconst 1) 1 w16 :: zE 17 .isub 1 :: zEc 18 (.invokestatic 145) 3 9002 0 782 0 :: es) σ [vR 5 0] [] = zev zc0 G 9 krV es σ [vR 5 0] [vI (zmx w11 ((σ.1 5 0 6) - w16)), vR 5 0] := rfl
noncomputable def d_X5_closeBracket (σ : zH)  : Option zH :=
  zlet (uI σ 5 0 7 ((σ.1 5 0 7) - (1 : Int32))) fun σ1 =>
  zlet (uI σ1 5 0 6 (zmx (0 : Int32) ((σ1.1 5 0 6) - (1 : Int32)))) fun σ2 =>
  some σ2
theorem e_X5_closeBracket (σ : zH)  : d_X5_closeBracket σ = zin zc0 (fun t => none) 9 krV b_X5_closeBracket 0 σ [vR 5 0] [] := by
  unfold d_X5_closeBracket
  refine Eq.symm ((zin_b (es := q_X5_closeBracket_0) rfl).trans ?_)
  refine (t_X5_closeBracket_0 _ _ _).trans ?_
  refine x_pf0.trans (plt fun _ => ?_)
  refine (t_X5_closeBracket_10 _ _ _ _).trans ?_
  refine x_pf0.trans (plt fun _ => ?_)
  exact x_vret
noncomputable def g_X5_closeBracket {ρ : Type} (σ : zH) (av : List zAV) (q : zH → zAV → Option ρ) : Option ρ := match av with
  | [.inr (.inr (.inl (5, 0)))] => (d_X5_closeBracket σ).bind fun σ => q σ vU
  | _ => none
theorem gr_X5_closeBracket {ρ : Type} (σ : zH)  (q : zH → zAV → Option ρ) : g_X5_closeBracket σ [vR 5 0] q = (d_X5_closeBracket σ).bind fun σ => q σ vU := rfl
theorem c_X5_closeBracket {ρ : Type} {X : zX} (hX : zHX X) {σ : zH} {av : List zAV} {q : zH → zAV → Option ρ} {r : ρ} (h : g_X5_closeBracket σ av q = some r) (hv : ∀ a ∈ av, zval X a) : zcon X 49 σ av q r := by
  unfold g_X5_closeBracket at h
  split at h
  · exact zcon_V (n := 49) (ml := 1) (rc := 9) (st := 0) (kd := 5) (np := 0) (by decide +kernel) rfl ⟨_, _, rfl, rfl⟩ (Nat.le_of_ble_eq_true rfl) hv h (fun y h1 => (zin_ok (hy_X5_closeBracket hX) bk_X5_closeBracket (fun t f hf => by
      cases hf) ((e_X5_closeBracket _).symm.trans h1)))
  · cases h
/-! SleepWaves$LawReader.takeJoint()V -/
def q_X5_takeJoint_11 : List zEnt := zEa 11 (.goto 4) 3 15 :: []
def q_X5_takeJoint_10 : List zEnt := zEk 10 (.iconst 1) 1 1 :: q_X5_takeJoint_11
def q_X5_takeJoint_7 : List zEnt := zEa 7 (.ifCond .ne 7) 3 14 :: q_X5_takeJoint_10
def q_X5_takeJoint_0 : List zEnt := zE 0 (.aload_n 0) 1 :: zEf 1 (.getfield 17) 3 5 0 21 (2, 7, 0) :: zEf 4 (.getfield 111) 3 7 3 10 (0, 0, 0) :: q_X5_takeJoint_7
def q_X5_takeJoint_14 : List zEnt := zEk 14 (.iconst 0) 1 0 :: [zE 15 .nop 0]
def q_X5_takeJoint_45 : List zEnt := zEa 45 (.goto 132) 3 177 :: []
def q_X5_takeJoint_42 : List zEnt := zEf 42 (.putfield 30) 3 5 2 23 (0, 0, 0) :: q_X5_takeJoint_45
def q_X5_takeJoint_40 : List zEnt := zE 40 (.aload_n 0) 1 :: zEk 41 (.iconst 1) 1 1 :: q_X5_takeJoint_42
def q_X5_takeJoint_37 : List zEnt := zEc 37 (.invokevirtual 108) 3 47 2 43 1 :: q_X5_takeJoint_40
def q_X5_takeJoint_34 : List zEnt := zE 34 (.aload_n 0) 1 :: zEk 35 (.bipush 20) 2 20 :: q_X5_takeJoint_37
def q_X5_takeJoint_31 : List zEnt := zEc 31 (.invokevirtual 132) 3 48 2 46 1 :: q_X5_takeJoint_34
def q_X5_takeJoint_28 : List zEnt := zE 28 (.aload_n 0) 1 :: zEk 29 (.bipush 20) 2 20 :: q_X5_takeJoint_31
def q_X5_takeJoint_25 : List zEnt := zEa 25 (.ifCond .eq 23) 3 48 :: q_X5_takeJoint_28
def q_X5_takeJoint_22 : List zEnt := zEc 22 (.invokevirtual 81) 3 69 2 33 0 :: q_X5_takeJoint_25
def q_X5_takeJoint_15 : List zEnt := zE 15 (.istore_n 1) 1 :: zE 16 (.aload_n 0) 1 :: zEf 17 (.getfield 17) 3 5 0 21 (2, 7, 0) :: (20, (.ldc 135), 2, (1, 17, 0, 0), (0, 0, 0), 0, 0, []) :: q_X5_takeJoint_22
def q_X5_takeJoint_77 : List zEnt := zEa 77 (.goto 100) 3 177 :: []
def q_X5_takeJoint_74 : List zEnt := zEf 74 (.putfield 30) 3 5 2 23 (0, 0, 0) :: q_X5_takeJoint_77
def q_X5_takeJoint_72 : List zEnt := zE 72 (.aload_n 0) 1 :: zEk 73 (.iconst 1) 1 1 :: q_X5_takeJoint_74
def q_X5_takeJoint_69 : List zEnt := zEc 69 (.invokevirtual 108) 3 47 2 43 1 :: q_X5_takeJoint_72
def q_X5_takeJoint_66 : List zEnt := zE 66 (.aload_n 0) 1 :: zEk 67 (.bipush 10) 2 10 :: q_X5_takeJoint_69
def q_X5_takeJoint_63 : List zEnt := zEc 63 (.invokevirtual 132) 3 48 2 46 1 :: q_X5_takeJoint_66
def q_X5_takeJoint_60 : List zEnt := zE 60 (.aload_n 0) 1 :: zEk 61 (.bipush 10) 2 10 :: q_X5_takeJoint_63
def q_X5_takeJoint_57 : List zEnt := zEa 57 (.ifCond .eq 23) 3 80 :: q_X5_takeJoint_60
def q_X5_takeJoint_54 : List zEnt := zEc 54 (.invokevirtual 81) 3 69 2 33 0 :: q_X5_takeJoint_57
def q_X5_takeJoint_48 : List zEnt := zE 48 (.aload_n 0) 1 :: zEf 49 (.getfield 17) 3 5 0 21 (2, 7, 0) :: (52, (.ldc 137), 2, (1, 18, 0, 0), (0, 0, 0), 0, 0, []) :: q_X5_takeJoint_54
def q_X5_takeJoint_114 : List zEnt := zEa 114 (.goto 63) 3 177 :: []
def q_X5_takeJoint_111 : List zEnt := zEf 111 (.putfield 30) 3 5 2 23 (0, 0, 0) :: q_X5_takeJoint_114
def q_X5_takeJoint_109 : List zEnt := zE 109 (.aload_n 0) 1 :: zEk 110 (.iconst 4) 1 4 :: q_X5_takeJoint_111
def q_X5_takeJoint_106 : List zEnt := zEc 106 (.invokevirtual 139) 3 49 1 48 1 :: q_X5_takeJoint_109
def q_X5_takeJoint_105 : List zEnt := zE 105 (.aload_n 0) 1 :: q_X5_takeJoint_106
def q_X5_takeJoint_102 : List zEnt := zEc 102 (.invokevirtual 132) 3 48 2 46 1 :: q_X5_takeJoint_105
def q_X5_takeJoint_99 : List zEnt := zE 99 (.aload_n 0) 1 :: zEk 100 (.bipush 10) 2 10 :: q_X5_takeJoint_102
def q_X5_takeJoint_96 : List zEnt := zEa 96 (.ifCond .le 21) 3 117 :: q_X5_takeJoint_99
def q_X5_takeJoint_92 : List zEnt := zE 92 (.aload_n 0) 1 :: zEf 93 (.getfield 40) 3 5 7 28 (0, 0, 0) :: q_X5_takeJoint_96
def q_X5_takeJoint_89 : List zEnt := zEa 89 (.ifCond .eq 28) 3 117 :: q_X5_takeJoint_92
def q_X5_takeJoint_86 : List zEnt := zEc 86 (.invokevirtual 98) 3 68 2 38 0 :: q_X5_takeJoint_89
def q_X5_takeJoint_80 : List zEnt := zE 80 (.aload_n 0) 1 :: zEf 81 (.getfield 17) 3 5 0 21 (2, 7, 0) :: zEk 84 (.bipush 93) 2 93 :: q_X5_takeJoint_86
def q_X5_takeJoint_130 : List zEnt := zEa 130 (.ifCond .eq 39) 3 169 :: [zE 133 .nop 0]
def q_X5_takeJoint_127 : List zEnt := zEc 127 (.invokevirtual 98) 3 68 2 38 0 :: q_X5_takeJoint_130
def q_X5_takeJoint_121 : List zEnt := zE 121 (.aload_n 0) 1 :: zEf 122 (.getfield 17) 3 5 0 21 (2, 7, 0) :: zEk 125 (.bipush 59) 2 59 :: q_X5_takeJoint_127
def q_X5_takeJoint_118 : List zEnt := zEa 118 (.ifCond .ne 15) 3 133 :: q_X5_takeJoint_121
def q_X5_takeJoint_117 : List zEnt := zE 117 (.iload_n 1) 1 :: q_X5_takeJoint_118
def q_X5_takeJoint_159 : List zEnt := zEa 159 (.goto 4) 3 163 :: []
def q_X5_takeJoint_158 : List zEnt := zEk 158 (.iconst 5) 1 5 :: q_X5_takeJoint_159
def q_X5_takeJoint_155 : List zEnt := zEa 155 (.ifCond .eq 7) 3 162 :: q_X5_takeJoint_158
def q_X5_takeJoint_153 : List zEnt := zE 153 (.aload_n 0) 1 :: zE 154 (.iload_n 1) 1 :: q_X5_takeJoint_155
def q_X5_takeJoint_150 : List zEnt := zEc 150 (.invokevirtual 142) 3 34 1 49 1 :: q_X5_takeJoint_153
def q_X5_takeJoint_147 : List zEnt := zEf 147 (.getfield 21) 3 5 1 22 (3, 4, 0) :: q_X5_takeJoint_150
def q_X5_takeJoint_146 : List zEnt := zE 146 (.aload_n 0) 1 :: q_X5_takeJoint_147
def q_X5_takeJoint_143 : List zEnt := zEc 143 (.invokevirtual 132) 3 48 2 46 1 :: q_X5_takeJoint_146
def q_X5_takeJoint_140 : List zEnt := zE 140 (.aload_n 0) 1 :: zEk 141 (.bipush 10) 2 10 :: q_X5_takeJoint_143
def q_X5_takeJoint_137 : List zEnt := zEa 137 (.ifCond .ne 32) 3 169 :: q_X5_takeJoint_140
def q_X5_takeJoint_133 : List zEnt := zE 133 (.aload_n 0) 1 :: zEf 134 (.getfield 40) 3 5 7 28 (0, 0, 0) :: q_X5_takeJoint_137
def q_X5_takeJoint_162 : List zEnt := zEk 162 (.iconst 0) 1 0 :: [zE 163 .nop 0]
def q_X5_takeJoint_166 : List zEnt := zEa 166 (.goto 11) 3 177 :: []
def q_X5_takeJoint_163 : List zEnt := zEf 163 (.putfield 30) 3 5 2 23 (0, 0, 0) :: q_X5_takeJoint_166
def q_X5_takeJoint_177 : List zEnt := zE 177 .return_ 1 :: []
def q_X5_takeJoint_174 : List zEnt := zEc 174 (.invokevirtual 87) 3 61 2 34 1 :: q_X5_takeJoint_177
def q_X5_takeJoint_169 : List zEnt := zE 169 (.aload_n 0) 1 :: zEf 170 (.getfield 17) 3 5 0 21 (2, 7, 0) :: zEk 173 (.iconst 0) 1 0 :: q_X5_takeJoint_174
def b_X5_takeJoint : List (Nat × List zEnt) := [(0, q_X5_takeJoint_0), (14, q_X5_takeJoint_14), (15, q_X5_takeJoint_15), (48, q_X5_takeJoint_48), (80, q_X5_takeJoint_80), (117, q_X5_takeJoint_117), (133, q_X5_takeJoint_133), (162, q_X5_takeJoint_162), (163, q_X5_takeJoint_163), (169, q_X5_takeJoint_169), (177, q_X5_takeJoint_177)]
theorem bk_X5_takeJoint : zchB 46 b_X5_takeJoint = true := by decide +kernel
noncomputable def cc_X5_takeJoint {ρ : Type} : Nat → zH → List zAV → (zH → zAV → Option ρ) → Option ρ := fun n σ av q => if n = 69 then g_X7_isWord σ av q else if n = 48 then g_X5_release σ av q else if n = 47 then g_X5_hold σ av q else if n = 68 then g_X7_isSign σ av q else if n = 49 then g_X5_closeBracket σ av q else if n = 34 then g_X4_closeClause σ av q else if n = 61 then g_X7_fail σ av q else none
theorem cs_X5_takeJoint {ρ : Type} {X : zX} (hX : zHX X) : zCS X (cc_X5_takeJoint (ρ := ρ)) := by
  intro n σ av q r h hv
  unfold cc_X5_takeJoint at h
  by_cases e_X7_isWord : n = 69
  · rw [if_pos e_X7_isWord] at h
    subst e_X7_isWord
    exact c_X7_isWord hX h hv
  rw [if_neg e_X7_isWord] at h
  by_cases e_X5_release : n = 48
  · rw [if_pos e_X5_release] at h
    subst e_X5_release
    exact c_X5_release hX h hv
  rw [if_neg e_X5_release] at h
  by_cases e_X5_hold : n = 47
  · rw [if_pos e_X5_hold] at h
    subst e_X5_hold
    exact c_X5_hold hX h hv
  rw [if_neg e_X5_hold] at h
  by_cases e_X7_isSign : n = 68
  · rw [if_pos e_X7_isSign] at h
    subst e_X7_isSign
    exact c_X7_isSign hX h hv
  rw [if_neg e_X7_isSign] at h
  by_cases e_X5_closeBracket : n = 49
  · rw [if_pos e_X5_closeBracket] at h
    subst e_X5_closeBracket
    exact c_X5_closeBracket hX h hv
  rw [if_neg e_X5_closeBracket] at h
  by_cases e_X4_closeClause : n = 34
  · rw [if_pos e_X4_closeClause] at h
    subst e_X4_closeClause
    exact c_X4_closeClause hX h hv
  rw [if_neg e_X4_closeClause] at h
  by_cases e_X7_fail : n = 61
  · rw [if_pos e_X7_fail] at h
    subst e_X7_fail
    exact c_X7_fail hX h hv
  rw [if_neg e_X7_fail] at h
  cases h
theorem cl_X5_takeJoint_X7_isWord {ρ : Type} (σ : zH) (av : List zAV) (q : zH → zAV → Option ρ) : cc_X5_takeJoint 69 σ av q = g_X7_isWord σ av q := rfl
theorem cl_X5_takeJoint_X5_release {ρ : Type} (σ : zH) (av : List zAV) (q : zH → zAV → Option ρ) : cc_X5_takeJoint 48 σ av q = g_X5_release σ av q := rfl
theorem cl_X5_takeJoint_X5_hold {ρ : Type} (σ : zH) (av : List zAV) (q : zH → zAV → Option ρ) : cc_X5_takeJoint 47 σ av q = g_X5_hold σ av q := rfl
theorem cl_X5_takeJoint_X7_isSign {ρ : Type} (σ : zH) (av : List zAV) (q : zH → zAV → Option ρ) : cc_X5_takeJoint 68 σ av q = g_X7_isSign σ av q := rfl
theorem cl_X5_takeJoint_X5_closeBracket {ρ : Type} (σ : zH) (av : List zAV) (q : zH → zAV → Option ρ) : cc_X5_takeJoint 49 σ av q = g_X5_closeBracket σ av q := rfl
theorem cl_X5_takeJoint_X4_closeClause {ρ : Type} (σ : zH) (av : List zAV) (q : zH → zAV → Option ρ) : cc_X5_takeJoint 34 σ av q = g_X4_closeClause σ av q := rfl
theorem cl_X5_takeJoint_X7_fail {ρ : Type} (σ : zH) (av : List zAV) (q : zH → zAV → Option ρ) : cc_X5_takeJoint 61 σ av q = g_X7_fail σ av q := rfl
theorem hy_X5_takeJoint {ρ : Type} {X : zX} (hX : zHX X) : zHY X 46 (cc_X5_takeJoint (ρ := ρ)) := zHX.hY hX (cs_X5_takeJoint hX) (zmok_all 46 (by decide))
def gl_X5_takeJoint_15 {ρ : Type} (f : zH → Int32 → Option ρ) (σ : zH) (L st : List zAV) : Option ρ := match L, st with
  | [.inr (.inr (.inl (5, 0))), _], [.inl xs0] => f σ xs0
  | _, _ => none
def gl_X5_takeJoint_117 {ρ : Type} (f : zH → Int32 → Option ρ) (σ : zH) (L st : List zAV) : Option ρ := match L, st with
  | [.inr (.inr (.inl (5, 0))), .inl x1], [] => f σ x1
  | _, _ => none
def gl_X5_takeJoint_133 {ρ : Type} (f : zH → Int32 → Option ρ) (σ : zH) (L st : List zAV) : Option ρ := match L, st with
  | [.inr (.inr (.inl (5, 0))), .inl x1], [] => f σ x1
  | _, _ => none
def gl_X5_takeJoint_163 {ρ : Type} (f : zH → Int32 → Option ρ) (σ : zH) (L st : List zAV) : Option ρ := match L, st with
  | [_, _], [.inl xs1, .inr (.inr (.inl (5, 0)))] => f σ xs1
  | _, _ => none
def gl_X5_takeJoint_169 {ρ : Type} (f : zH → Option ρ) (σ : zH) (L st : List zAV) : Option ρ := match L, st with
  | [.inr (.inr (.inl (5, 0))), _], [] => f σ
  | _, _ => none
theorem glr_X5_takeJoint_15 {ρ : Type} (f : zH → Int32 → Option ρ) (σ : zH) (xs0 : Int32) (y1 : zAV) : gl_X5_takeJoint_15 f σ [vR 5 0, y1] [vI xs0] = f σ xs0 := rfl
theorem glr_X5_takeJoint_117 {ρ : Type} (f : zH → Int32 → Option ρ) (σ : zH) (x1 : Int32)  : gl_X5_takeJoint_117 f σ [vR 5 0, vI x1] [] = f σ x1 := rfl
theorem glr_X5_takeJoint_133 {ρ : Type} (f : zH → Int32 → Option ρ) (σ : zH) (x1 : Int32)  : gl_X5_takeJoint_133 f σ [vR 5 0, vI x1] [] = f σ x1 := rfl
theorem glr_X5_takeJoint_163 {ρ : Type} (f : zH → Int32 → Option ρ) (σ : zH) (xs1 : Int32) (y0 : zAV) (y1 : zAV) : gl_X5_takeJoint_163 f σ [y0, y1] [vI xs1, vR 5 0] = f σ xs1 := rfl
theorem glr_X5_takeJoint_169 {ρ : Type} (f : zH → Option ρ) (σ : zH)  (y1 : zAV) : gl_X5_takeJoint_169 f σ [vR 5 0, y1] [] = f σ := rfl
theorem t_X5_takeJoint_0 {G : Nat → zH → List zAV → List zAV → Option zH} (es : List zEnt) (σ : zH)  (y1 : zAV)  : zev cc_X5_takeJoint G 9 krV (zE 0 (.aload_n 0) 1 :: zEf 1 (.getfield 17) 3 5 0 21 (2, 7, 0) :: zEf 4 (.getfield 111) 3 7 3 10 (0, 0, 0) :: es) σ [vR 5 0, y1] [] = zev cc_X5_takeJoint G 9 krV es σ [vR 5 0, y1] [vI (σ.1 7 0 3)] := rfl
theorem t_X5_takeJoint_10 {G : Nat → zH → List zAV → List zAV → Option zH} (es : List zEnt) (σ : zH)  (y1 : zAV) (w10 : Int32) : zev cc_X5_takeJoint G 9 krV (zEk 10 (.iconst 1) 1 w10 :: es) σ [vR 5 0, y1] [] = zev cc_X5_takeJoint G 9 krV es σ [vR 5 0, y1] [vI w10] := rfl
theorem t_X5_takeJoint_14 {G : Nat → zH → List zAV → List zAV → Option zH} (es : List zEnt) (σ : zH)  (y1 : zAV) (w14 : Int32) : zev cc_X5_takeJoint G 9 krV (zEk 14 (.iconst 0) 1 w14 :: es) σ [vR 5 0, y1] [] = zev cc_X5_takeJoint G 9 krV es σ [vR 5 0, y1] [vI w14] := rfl
theorem t_X5_takeJoint_15 {G : Nat → zH → List zAV → List zAV → Option zH} (es : List zEnt) (σ : zH) (xs0 : Int32) (y1 : zAV)  : zev cc_X5_takeJoint G 9 krV (zE 15 (.istore_n 1) 1 :: zE 16 (.aload_n 0) 1 :: zEf 17 (.getfield 17) 3 5 0 21 (2, 7, 0) :: (20, (.ldc 135), 2, (1, 17, 0, 0), (0, 0, 0), 0, 0, []) :: es) σ [vR 5 0, y1] [vI xs0] = zev cc_X5_takeJoint G 9 krV es σ [vR 5 0, vI xs0] [vR 200 17, vR 7 0] := rfl
theorem t_X5_takeJoint_28 {G : Nat → zH → List zAV → List zAV → Option zH} (es : List zEnt) (σ : zH)  (y1 : zAV) (w29 : Int32) : zev cc_X5_takeJoint G 9 krV (zE 28 (.aload_n 0) 1 :: zEk 29 (.bipush 20) 2 w29 :: es) σ [vR 5 0, y1] [] = zev cc_X5_takeJoint G 9 krV es σ [vR 5 0, y1] [vI w29, vR 5 0] := rfl
theorem t_X5_takeJoint_34 {G : Nat → zH → List zAV → List zAV → Option zH} (es : List zEnt) (σ : zH)  (y1 : zAV) (w35 : Int32) : zev cc_X5_takeJoint G 9 krV (zE 34 (.aload_n 0) 1 :: zEk 35 (.bipush 20) 2 w35 :: es) σ [vR 5 0, y1] [] = zev cc_X5_takeJoint G 9 krV es σ [vR 5 0, y1] [vI w35, vR 5 0] := rfl
theorem t_X5_takeJoint_40 {G : Nat → zH → List zAV → List zAV → Option zH} (es : List zEnt) (σ : zH)  (y1 : zAV) (w41 : Int32) : zev cc_X5_takeJoint G 9 krV (zE 40 (.aload_n 0) 1 :: zEk 41 (.iconst 1) 1 w41 :: es) σ [vR 5 0, y1] [] = zev cc_X5_takeJoint G 9 krV es σ [vR 5 0, y1] [vI w41, vR 5 0] := rfl
theorem t_X5_takeJoint_48 {G : Nat → zH → List zAV → List zAV → Option zH} (es : List zEnt) (σ : zH) (x1 : Int32)   : zev cc_X5_takeJoint G 9 krV (zE 48 (.aload_n 0) 1 :: zEf 49 (.getfield 17) 3 5 0 21 (2, 7, 0) :: (52, (.ldc 137), 2, (1, 18, 0, 0), (0, 0, 0), 0, 0, []) :: es) σ [vR 5 0, vI x1] [] = zev cc_X5_takeJoint G 9 krV es σ [vR 5 0, vI x1] [vR 200 18, vR 7 0] := rfl
theorem t_X5_takeJoint_60 {G : Nat → zH → List zAV → List zAV → Option zH} (es : List zEnt) (σ : zH)  (y1 : zAV) (w61 : Int32) : zev cc_X5_takeJoint G 9 krV (zE 60 (.aload_n 0) 1 :: zEk 61 (.bipush 10) 2 w61 :: es) σ [vR 5 0, y1] [] = zev cc_X5_takeJoint G 9 krV es σ [vR 5 0, y1] [vI w61, vR 5 0] := rfl
theorem t_X5_takeJoint_66 {G : Nat → zH → List zAV → List zAV → Option zH} (es : List zEnt) (σ : zH)  (y1 : zAV) (w67 : Int32) : zev cc_X5_takeJoint G 9 krV (zE 66 (.aload_n 0) 1 :: zEk 67 (.bipush 10) 2 w67 :: es) σ [vR 5 0, y1] [] = zev cc_X5_takeJoint G 9 krV es σ [vR 5 0, y1] [vI w67, vR 5 0] := rfl
theorem t_X5_takeJoint_72 {G : Nat → zH → List zAV → List zAV → Option zH} (es : List zEnt) (σ : zH)  (y1 : zAV) (w73 : Int32) : zev cc_X5_takeJoint G 9 krV (zE 72 (.aload_n 0) 1 :: zEk 73 (.iconst 1) 1 w73 :: es) σ [vR 5 0, y1] [] = zev cc_X5_takeJoint G 9 krV es σ [vR 5 0, y1] [vI w73, vR 5 0] := rfl
theorem t_X5_takeJoint_80 {G : Nat → zH → List zAV → List zAV → Option zH} (es : List zEnt) (σ : zH) (x1 : Int32)  (w84 : Int32) : zev cc_X5_takeJoint G 9 krV (zE 80 (.aload_n 0) 1 :: zEf 81 (.getfield 17) 3 5 0 21 (2, 7, 0) :: zEk 84 (.bipush 93) 2 w84 :: es) σ [vR 5 0, vI x1] [] = zev cc_X5_takeJoint G 9 krV es σ [vR 5 0, vI x1] [vI w84, vR 7 0] := rfl
theorem t_X5_takeJoint_92 {G : Nat → zH → List zAV → List zAV → Option zH} (es : List zEnt) (σ : zH) (x1 : Int32)   : zev cc_X5_takeJoint G 9 krV (zE 92 (.aload_n 0) 1 :: zEf 93 (.getfield 40) 3 5 7 28 (0, 0, 0) :: es) σ [vR 5 0, vI x1] [] = zev cc_X5_takeJoint G 9 krV es σ [vR 5 0, vI x1] [vI (σ.1 5 0 7)] := rfl
theorem t_X5_takeJoint_99 {G : Nat → zH → List zAV → List zAV → Option zH} (es : List zEnt) (σ : zH)  (y1 : zAV) (w100 : Int32) : zev cc_X5_takeJoint G 9 krV (zE 99 (.aload_n 0) 1 :: zEk 100 (.bipush 10) 2 w100 :: es) σ [vR 5 0, y1] [] = zev cc_X5_takeJoint G 9 krV es σ [vR 5 0, y1] [vI w100, vR 5 0] := rfl
theorem t_X5_takeJoint_105 {G : Nat → zH → List zAV → List zAV → Option zH} (es : List zEnt) (σ : zH)  (y1 : zAV)  : zev cc_X5_takeJoint G 9 krV (zE 105 (.aload_n 0) 1 :: es) σ [vR 5 0, y1] [] = zev cc_X5_takeJoint G 9 krV es σ [vR 5 0, y1] [vR 5 0] := rfl
theorem t_X5_takeJoint_109 {G : Nat → zH → List zAV → List zAV → Option zH} (es : List zEnt) (σ : zH)  (y1 : zAV) (w110 : Int32) : zev cc_X5_takeJoint G 9 krV (zE 109 (.aload_n 0) 1 :: zEk 110 (.iconst 4) 1 w110 :: es) σ [vR 5 0, y1] [] = zev cc_X5_takeJoint G 9 krV es σ [vR 5 0, y1] [vI w110, vR 5 0] := rfl
theorem t_X5_takeJoint_117 {G : Nat → zH → List zAV → List zAV → Option zH} (es : List zEnt) (σ : zH) (x1 : Int32)   : zev cc_X5_takeJoint G 9 krV (zE 117 (.iload_n 1) 1 :: es) σ [vR 5 0, vI x1] [] = zev cc_X5_takeJoint G 9 krV es σ [vR 5 0, vI x1] [vI x1] := rfl
theorem t_X5_takeJoint_121 {G : Nat → zH → List zAV → List zAV → Option zH} (es : List zEnt) (σ : zH) (x1 : Int32)  (w125 : Int32) : zev cc_X5_takeJoint G 9 krV (zE 121 (.aload_n 0) 1 :: zEf 122 (.getfield 17) 3 5 0 21 (2, 7, 0) :: zEk 125 (.bipush 59) 2 w125 :: es) σ [vR 5 0, vI x1] [] = zev cc_X5_takeJoint G 9 krV es σ [vR 5 0, vI x1] [vI w125, vR 7 0] := rfl
theorem t_X5_takeJoint_133 {G : Nat → zH → List zAV → List zAV → Option zH} (es : List zEnt) (σ : zH) (x1 : Int32)   : zev cc_X5_takeJoint G 9 krV (zE 133 (.aload_n 0) 1 :: zEf 134 (.getfield 40) 3 5 7 28 (0, 0, 0) :: es) σ [vR 5 0, vI x1] [] = zev cc_X5_takeJoint G 9 krV es σ [vR 5 0, vI x1] [vI (σ.1 5 0 7)] := rfl
theorem t_X5_takeJoint_140 {G : Nat → zH → List zAV → List zAV → Option zH} (es : List zEnt) (σ : zH) (x1 : Int32)  (w141 : Int32) : zev cc_X5_takeJoint G 9 krV (zE 140 (.aload_n 0) 1 :: zEk 141 (.bipush 10) 2 w141 :: es) σ [vR 5 0, vI x1] [] = zev cc_X5_takeJoint G 9 krV es σ [vR 5 0, vI x1] [vI w141, vR 5 0] := rfl
theorem t_X5_takeJoint_146 {G : Nat → zH → List zAV → List zAV → Option zH} (es : List zEnt) (σ : zH) (x1 : Int32)   : zev cc_X5_takeJoint G 9 krV (zE 146 (.aload_n 0) 1 :: es) σ [vR 5 0, vI x1] [] = zev cc_X5_takeJoint G 9 krV es σ [vR 5 0, vI x1] [vR 5 0] := rfl
theorem t_X5_takeJoint_153 {G : Nat → zH → List zAV → List zAV → Option zH} (es : List zEnt) (σ : zH) (x1 : Int32)   : zev cc_X5_takeJoint G 9 krV (zE 153 (.aload_n 0) 1 :: zE 154 (.iload_n 1) 1 :: es) σ [vR 5 0, vI x1] [] = zev cc_X5_takeJoint G 9 krV es σ [vR 5 0, vI x1] [vI x1, vR 5 0] := rfl
theorem t_X5_takeJoint_158 {G : Nat → zH → List zAV → List zAV → Option zH} (es : List zEnt) (σ : zH)  (y0 : zAV) (y1 : zAV) (w158 : Int32) : zev cc_X5_takeJoint G 9 krV (zEk 158 (.iconst 5) 1 w158 :: es) σ [y0, y1] [vR 5 0] = zev cc_X5_takeJoint G 9 krV es σ [y0, y1] [vI w158, vR 5 0] := rfl
theorem t_X5_takeJoint_162 {G : Nat → zH → List zAV → List zAV → Option zH} (es : List zEnt) (σ : zH)  (y0 : zAV) (y1 : zAV) (w162 : Int32) : zev cc_X5_takeJoint G 9 krV (zEk 162 (.iconst 0) 1 w162 :: es) σ [y0, y1] [vR 5 0] = zev cc_X5_takeJoint G 9 krV es σ [y0, y1] [vI w162, vR 5 0] := rfl
theorem t_X5_takeJoint_169 {G : Nat → zH → List zAV → List zAV → Option zH} (es : List zEnt) (σ : zH)  (y1 : zAV) (w173 : Int32) : zev cc_X5_takeJoint G 9 krV (zE 169 (.aload_n 0) 1 :: zEf 170 (.getfield 17) 3 5 0 21 (2, 7, 0) :: zEk 173 (.iconst 0) 1 w173 :: es) σ [vR 5 0, y1] [] = zev cc_X5_takeJoint G 9 krV es σ [vR 5 0, y1] [vI w173, vR 7 0] := rfl
noncomputable def j_X5_takeJoint_163  (σ : zH) (xs1 : Int32) : Option zH :=
  zlet (uI σ 5 0 2 xs1) fun σ1 =>
  some σ1
theorem e_X5_takeJoint_163  (σ : zH) (xs1 : Int32) (y0 : zAV) (y1 : zAV) : j_X5_takeJoint_163 σ xs1 = zin cc_X5_takeJoint (fun t => none) 9 krV b_X5_takeJoint 163 σ [y0, y1] [vI xs1, vR 5 0] := by
  unfold j_X5_takeJoint_163
  refine Eq.symm ((zin_b (es := q_X5_takeJoint_163) rfl).trans ?_)
  refine x_pf0.trans (plt fun _ => ?_)
  refine x_goto.trans ?_
  refine (zrun_b (es := q_X5_takeJoint_177) rfl rfl).trans ?_
  exact x_vret
theorem s_X5_takeJoint_163 {X : zX} (hX : zHX X)   : ∀ σ L st r, gl_X5_takeJoint_163 j_X5_takeJoint_163 σ L st = some r → zGW X 46 krV 163 σ L st r := by
  intro σ L st r h
  unfold gl_X5_takeJoint_163 at h
  split at h
  · exact zin_ok (hy_X5_takeJoint hX) bk_X5_takeJoint (fun t f hf => by
    cases hf) ((e_X5_takeJoint_163 _ _ _ _).symm.trans h)
  · cases h
noncomputable def j_X5_takeJoint_169  (σ : zH)  : Option zH :=
  (d_X7_fail σ (0 : Int32)).bind fun σ1 =>
  some σ1
theorem e_X5_takeJoint_169  (σ : zH)  (y1 : zAV) : j_X5_takeJoint_169 σ = zin cc_X5_takeJoint (fun t => none) 9 krV b_X5_takeJoint 169 σ [vR 5 0, y1] [] := by
  unfold j_X5_takeJoint_169
  refine Eq.symm ((zin_b (es := q_X5_takeJoint_169) rfl).trans ?_)
  refine (t_X5_takeJoint_169 _ _ _ _).trans ?_
  refine (x_callV rfl rfl rfl rfl).trans ((cl_X5_takeJoint_X7_fail _ _ _).trans ((gr_X7_fail _ _ _).trans (pbd fun _ => ?_)))
  exact x_vret
theorem s_X5_takeJoint_169 {X : zX} (hX : zHX X)   : ∀ σ L st r, gl_X5_takeJoint_169 j_X5_takeJoint_169 σ L st = some r → zGW X 46 krV 169 σ L st r := by
  intro σ L st r h
  unfold gl_X5_takeJoint_169 at h
  split at h
  · exact zin_ok (hy_X5_takeJoint hX) bk_X5_takeJoint (fun t f hf => by
    cases hf) ((e_X5_takeJoint_169 _ _).symm.trans h)
  · cases h
noncomputable def j_X5_takeJoint_133  (σ : zH) (x1 : Int32) : Option zH :=
  if (σ.1 5 0 7) = 0 then
    (d_X5_release σ (10 : Int32)).bind fun σ1 =>
    ix (σ1.1 5 0 1) 6 fun j2 =>
    (d_X4_closeClause σ1 j2).bind fun σ3 =>
    if x1 = 0 then
      j_X5_takeJoint_163 σ3 (0 : Int32)
    else
      j_X5_takeJoint_163 σ3 (5 : Int32)
  else
    j_X5_takeJoint_169 σ
theorem e_X5_takeJoint_133  (σ : zH) (x1 : Int32)  : j_X5_takeJoint_133 σ x1 = zin cc_X5_takeJoint (fun t => if t = 163 then some (gl_X5_takeJoint_163 j_X5_takeJoint_163) else if t = 169 then some (gl_X5_takeJoint_169 j_X5_takeJoint_169) else none) 9 krV b_X5_takeJoint 133 σ [vR 5 0, vI x1] [] := by
  unfold j_X5_takeJoint_133
  refine Eq.symm ((zin_b (es := q_X5_takeJoint_133) rfl).trans ?_)
  refine (t_X5_takeJoint_133 _ _ _).trans ?_
  refine x_if.trans (pif_ne ?_ ?_)
  · exact (zrun_c rfl).trans (glr_X5_takeJoint_169 _ _ _)
  · refine (t_X5_takeJoint_140 _ _ _ _).trans ?_
    refine (x_callV rfl rfl rfl rfl).trans ((cl_X5_takeJoint_X5_release _ _ _).trans ((gr_X5_release _ _ _).trans (pbd fun _ => ?_)))
    refine (t_X5_takeJoint_146 _ _ _).trans ?_
    refine x_gf3.trans (pix fun _ => ?_)
    refine (x_callV rfl rfl rfl rfl).trans ((cl_X5_takeJoint_X4_closeClause _ _ _).trans ((gr_X4_closeClause _ _ _).trans (pbd fun _ => ?_)))
    refine (t_X5_takeJoint_153 _ _ _).trans ?_
    refine x_if.trans (pif_eq ?_ ?_)
    · refine (zrun_b (es := q_X5_takeJoint_162) rfl rfl).trans ?_
      refine (t_X5_takeJoint_162 _ _ _ _ _).trans ?_
      refine x_cut.trans ?_
      exact (zrun_c rfl).trans (glr_X5_takeJoint_163 _ _ _ _ _)
    · refine (t_X5_takeJoint_158 _ _ _ _ _).trans ?_
      refine x_goto.trans ?_
      exact (zrun_c rfl).trans (glr_X5_takeJoint_163 _ _ _ _ _)
theorem s_X5_takeJoint_133 {X : zX} (hX : zHX X)   : ∀ σ L st r, gl_X5_takeJoint_133 j_X5_takeJoint_133 σ L st = some r → zGW X 46 krV 133 σ L st r := by
  intro σ L st r h
  unfold gl_X5_takeJoint_133 at h
  split at h
  · exact zin_ok (hy_X5_takeJoint hX) bk_X5_takeJoint (fun t f hf => by
    by_cases e163 : t = 163
    · rw [if_pos e163] at hf; subst e163; cases hf; exact (s_X5_takeJoint_163 hX)
    rw [if_neg e163] at hf
    by_cases e169 : t = 169
    · rw [if_pos e169] at hf; subst e169; cases hf; exact (s_X5_takeJoint_169 hX)
    rw [if_neg e169] at hf
    cases hf) ((e_X5_takeJoint_133 _ _).symm.trans h)
  · cases h
noncomputable def j_X5_takeJoint_117  (σ : zH) (x1 : Int32) : Option zH :=
  if x1 = 0 then
    (d_X7_isSign σ (59 : Int32)).bind fun p1 =>
    if p1.2 = 0 then
      j_X5_takeJoint_169 p1.1
    else
      j_X5_takeJoint_133 p1.1 x1
  else
    j_X5_takeJoint_133 σ x1
theorem e_X5_takeJoint_117  (σ : zH) (x1 : Int32)  : j_X5_takeJoint_117 σ x1 = zin cc_X5_takeJoint (fun t => if t = 133 then some (gl_X5_takeJoint_133 j_X5_takeJoint_133) else if t = 169 then some (gl_X5_takeJoint_169 j_X5_takeJoint_169) else none) 9 krV b_X5_takeJoint 117 σ [vR 5 0, vI x1] [] := by
  unfold j_X5_takeJoint_117
  refine Eq.symm ((zin_b (es := q_X5_takeJoint_117) rfl).trans ?_)
  refine (t_X5_takeJoint_117 _ _ _).trans ?_
  refine x_if.trans (pif_ne ?_ ?_)
  · exact (zrun_c rfl).trans (glr_X5_takeJoint_133 _ _ _)
  · refine (t_X5_takeJoint_121 _ _ _ _).trans ?_
    refine (x_callV rfl rfl rfl rfl).trans ((cl_X5_takeJoint_X7_isSign _ _ _).trans ((gr_X7_isSign _ _ _).trans (pbd fun _ => ?_)))
    refine x_if.trans (pif_eq ?_ ?_)
    · exact (zrun_c rfl).trans (glr_X5_takeJoint_169 _ _ _)
    · refine x_cut.trans ?_
      exact (zrun_c rfl).trans (glr_X5_takeJoint_133 _ _ _)
theorem s_X5_takeJoint_117 {X : zX} (hX : zHX X)   : ∀ σ L st r, gl_X5_takeJoint_117 j_X5_takeJoint_117 σ L st = some r → zGW X 46 krV 117 σ L st r := by
  intro σ L st r h
  unfold gl_X5_takeJoint_117 at h
  split at h
  · exact zin_ok (hy_X5_takeJoint hX) bk_X5_takeJoint (fun t f hf => by
    by_cases e133 : t = 133
    · rw [if_pos e133] at hf; subst e133; cases hf; exact (s_X5_takeJoint_133 hX)
    rw [if_neg e133] at hf
    by_cases e169 : t = 169
    · rw [if_pos e169] at hf; subst e169; cases hf; exact (s_X5_takeJoint_169 hX)
    rw [if_neg e169] at hf
    cases hf) ((e_X5_takeJoint_117 _ _).symm.trans h)
  · cases h
noncomputable def j_X5_takeJoint_15  (σ : zH) (xs0 : Int32) : Option zH :=
  (d_X7_isWord σ 17).bind fun p1 =>
  if p1.2 = 0 then
    (d_X7_isWord p1.1 18).bind fun p2 =>
    if p2.2 = 0 then
      (d_X7_isSign p2.1 (93 : Int32)).bind fun p3 =>
      if p3.2 = 0 then
        j_X5_takeJoint_117 p3.1 xs0
      else
        if (0 : Int32) < (p3.1.1 5 0 7) then
          (d_X5_release p3.1 (10 : Int32)).bind fun σ4 =>
          (d_X5_closeBracket σ4).bind fun σ5 =>
          zlet (uI σ5 5 0 2 (4 : Int32)) fun σ6 =>
          some σ6
        else
          j_X5_takeJoint_117 p3.1 xs0
    else
      (d_X5_release p2.1 (10 : Int32)).bind fun σ7 =>
      (d_X5_hold σ7 (10 : Int32)).bind fun σ8 =>
      zlet (uI σ8 5 0 2 (1 : Int32)) fun σ9 =>
      some σ9
  else
    (d_X5_release p1.1 (20 : Int32)).bind fun σ10 =>
    (d_X5_hold σ10 (20 : Int32)).bind fun σ11 =>
    zlet (uI σ11 5 0 2 (1 : Int32)) fun σ12 =>
    some σ12
theorem e_X5_takeJoint_15  (σ : zH) (xs0 : Int32) (y1 : zAV) : j_X5_takeJoint_15 σ xs0 = zin cc_X5_takeJoint (fun t => if t = 117 then some (gl_X5_takeJoint_117 j_X5_takeJoint_117) else none) 9 krV b_X5_takeJoint 15 σ [vR 5 0, y1] [vI xs0] := by
  unfold j_X5_takeJoint_15
  refine Eq.symm ((zin_b (es := q_X5_takeJoint_15) rfl).trans ?_)
  refine (t_X5_takeJoint_15 _ _ _ _).trans ?_
  refine (x_callV rfl rfl rfl rfl).trans ((cl_X5_takeJoint_X7_isWord _ _ _).trans ((gr_X7_isWord _ _ _).trans (pbd fun _ => ?_)))
  refine x_if.trans (pif_eq ?_ ?_)
  · refine (zrun_b (es := q_X5_takeJoint_48) rfl rfl).trans ?_
    refine (t_X5_takeJoint_48 _ _ _).trans ?_
    refine (x_callV rfl rfl rfl rfl).trans ((cl_X5_takeJoint_X7_isWord _ _ _).trans ((gr_X7_isWord _ _ _).trans (pbd fun _ => ?_)))
    refine x_if.trans (pif_eq ?_ ?_)
    · refine (zrun_b (es := q_X5_takeJoint_80) rfl rfl).trans ?_
      refine (t_X5_takeJoint_80 _ _ _ _).trans ?_
      refine (x_callV rfl rfl rfl rfl).trans ((cl_X5_takeJoint_X7_isSign _ _ _).trans ((gr_X7_isSign _ _ _).trans (pbd fun _ => ?_)))
      refine x_if.trans (pif_eq ?_ ?_)
      · exact (zrun_c rfl).trans (glr_X5_takeJoint_117 _ _ _)
      · refine (t_X5_takeJoint_92 _ _ _).trans ?_
        refine x_if.trans (pif_le ?_ ?_)
        · exact (zrun_c rfl).trans (glr_X5_takeJoint_117 _ _ _)
        · refine (t_X5_takeJoint_99 _ _ _ _).trans ?_
          refine (x_callV rfl rfl rfl rfl).trans ((cl_X5_takeJoint_X5_release _ _ _).trans ((gr_X5_release _ _ _).trans (pbd fun _ => ?_)))
          refine (t_X5_takeJoint_105 _ _ _).trans ?_
          refine (x_callV rfl rfl rfl rfl).trans ((cl_X5_takeJoint_X5_closeBracket _ _ _).trans ((gr_X5_closeBracket _ _).trans (pbd fun _ => ?_)))
          refine (t_X5_takeJoint_109 _ _ _ _).trans ?_
          refine x_pf0.trans (plt fun _ => ?_)
          refine x_goto.trans ?_
          refine (zrun_b (es := q_X5_takeJoint_177) rfl rfl).trans ?_
          exact x_vret
    · refine (t_X5_takeJoint_60 _ _ _ _).trans ?_
      refine (x_callV rfl rfl rfl rfl).trans ((cl_X5_takeJoint_X5_release _ _ _).trans ((gr_X5_release _ _ _).trans (pbd fun _ => ?_)))
      refine (t_X5_takeJoint_66 _ _ _ _).trans ?_
      refine (x_callV rfl rfl rfl rfl).trans ((cl_X5_takeJoint_X5_hold _ _ _).trans ((gr_X5_hold _ _ _).trans (pbd fun _ => ?_)))
      refine (t_X5_takeJoint_72 _ _ _ _).trans ?_
      refine x_pf0.trans (plt fun _ => ?_)
      refine x_goto.trans ?_
      refine (zrun_b (es := q_X5_takeJoint_177) rfl rfl).trans ?_
      exact x_vret
  · refine (t_X5_takeJoint_28 _ _ _ _).trans ?_
    refine (x_callV rfl rfl rfl rfl).trans ((cl_X5_takeJoint_X5_release _ _ _).trans ((gr_X5_release _ _ _).trans (pbd fun _ => ?_)))
    refine (t_X5_takeJoint_34 _ _ _ _).trans ?_
    refine (x_callV rfl rfl rfl rfl).trans ((cl_X5_takeJoint_X5_hold _ _ _).trans ((gr_X5_hold _ _ _).trans (pbd fun _ => ?_)))
    refine (t_X5_takeJoint_40 _ _ _ _).trans ?_
    refine x_pf0.trans (plt fun _ => ?_)
    refine x_goto.trans ?_
    refine (zrun_b (es := q_X5_takeJoint_177) rfl rfl).trans ?_
    exact x_vret
theorem s_X5_takeJoint_15 {X : zX} (hX : zHX X)   : ∀ σ L st r, gl_X5_takeJoint_15 j_X5_takeJoint_15 σ L st = some r → zGW X 46 krV 15 σ L st r := by
  intro σ L st r h
  unfold gl_X5_takeJoint_15 at h
  split at h
  · exact zin_ok (hy_X5_takeJoint hX) bk_X5_takeJoint (fun t f hf => by
    by_cases e117 : t = 117
    · rw [if_pos e117] at hf; subst e117; cases hf; exact (s_X5_takeJoint_117 hX)
    rw [if_neg e117] at hf
    cases hf) ((e_X5_takeJoint_15 _ _ _).symm.trans h)
  · cases h
noncomputable def d_X5_takeJoint (σ : zH)  : Option zH :=
  if (σ.1 7 0 3) = 0 then
    j_X5_takeJoint_15 σ (1 : Int32)
  else
    j_X5_takeJoint_15 σ (0 : Int32)
theorem e_X5_takeJoint (σ : zH)  : d_X5_takeJoint σ = zin cc_X5_takeJoint (fun t => if t = 15 then some (gl_X5_takeJoint_15 j_X5_takeJoint_15) else none) 9 krV b_X5_takeJoint 0 σ [vR 5 0, vU] [] := by
  unfold d_X5_takeJoint
  refine Eq.symm ((zin_b (es := q_X5_takeJoint_0) rfl).trans ?_)
  refine (t_X5_takeJoint_0 _ _ _).trans ?_
  refine x_if.trans (pif_ne ?_ ?_)
  · refine (zrun_b (es := q_X5_takeJoint_14) rfl rfl).trans ?_
    refine (t_X5_takeJoint_14 _ _ _ _).trans ?_
    refine x_cut.trans ?_
    exact (zrun_c rfl).trans (glr_X5_takeJoint_15 _ _ _ _)
  · refine (t_X5_takeJoint_10 _ _ _ _).trans ?_
    refine x_goto.trans ?_
    exact (zrun_c rfl).trans (glr_X5_takeJoint_15 _ _ _ _)
noncomputable def g_X5_takeJoint {ρ : Type} (σ : zH) (av : List zAV) (q : zH → zAV → Option ρ) : Option ρ := match av with
  | [.inr (.inr (.inl (5, 0)))] => (d_X5_takeJoint σ).bind fun σ => q σ vU
  | _ => none
theorem gr_X5_takeJoint {ρ : Type} (σ : zH)  (q : zH → zAV → Option ρ) : g_X5_takeJoint σ [vR 5 0] q = (d_X5_takeJoint σ).bind fun σ => q σ vU := rfl
theorem c_X5_takeJoint {ρ : Type} {X : zX} (hX : zHX X) {σ : zH} {av : List zAV} {q : zH → zAV → Option ρ} {r : ρ} (h : g_X5_takeJoint σ av q = some r) (hv : ∀ a ∈ av, zval X a) : zcon X 46 σ av q r := by
  unfold g_X5_takeJoint at h
  split at h
  · exact zcon_V (n := 46) (ml := 2) (rc := 9) (st := 0) (kd := 5) (np := 0) (by decide +kernel) rfl ⟨_, _, rfl, rfl⟩ (Nat.le_of_ble_eq_true rfl) hv h (fun y h1 => (zin_ok (hy_X5_takeJoint hX) bk_X5_takeJoint (fun t f hf => by
      by_cases e15 : t = 15
      · rw [if_pos e15] at hf; subst e15; cases hf; exact (s_X5_takeJoint_15 hX)
      rw [if_neg e15] at hf
      cases hf) ((e_X5_takeJoint _).symm.trans h1)))
  · cases h
/-! SleepWaves$LawReader.takeOperator()V -/
def q_X5_takeOperator_21 : List zEnt := zEa 21 (.goto 4) 3 25 :: []
def q_X5_takeOperator_18 : List zEnt := zEc 18 (.invokestatic 128) 3 51 1 45 0 :: q_X5_takeOperator_21
def q_X5_takeOperator_11 : List zEnt := zE 11 (.aload_n 0) 1 :: zEf 12 (.getfield 17) 3 5 0 21 (2, 7, 0) :: zEf 15 (.getfield 118) 3 7 4 12 (0, 0, 0) :: q_X5_takeOperator_18
def q_X5_takeOperator_8 : List zEnt := zEa 8 (.if_icmp .ne 16) 3 24 :: q_X5_takeOperator_11
def q_X5_takeOperator_0 : List zEnt := zE 0 (.aload_n 0) 1 :: zEf 1 (.getfield 17) 3 5 0 21 (2, 7, 0) :: zEf 4 (.getfield 111) 3 7 3 10 (0, 0, 0) :: zEk 7 (.iconst 3) 1 3 :: q_X5_takeOperator_8
def q_X5_takeOperator_24 : List zEnt := zEk 24 (.iconst (-1)) 1 (-1) :: [zE 25 .nop 0]
def q_X5_takeOperator_47 : List zEnt := zEa 47 (.goto 83) 3 130 :: []
def q_X5_takeOperator_44 : List zEnt := zEf 44 (.putfield 30) 3 5 2 23 (0, 0, 0) :: q_X5_takeOperator_47
def q_X5_takeOperator_42 : List zEnt := zE 42 (.aload_n 0) 1 :: zEk 43 (.iconst 2) 1 2 :: q_X5_takeOperator_44
def q_X5_takeOperator_39 : List zEnt := zEc 39 (.invokevirtual 108) 3 47 2 43 1 :: q_X5_takeOperator_42
def q_X5_takeOperator_37 : List zEnt := zE 37 (.aload_n 0) 1 :: zE 38 (.iload_n 1) 1 :: q_X5_takeOperator_39
def q_X5_takeOperator_34 : List zEnt := zEc 34 (.invokevirtual 132) 3 48 2 46 1 :: q_X5_takeOperator_37
def q_X5_takeOperator_32 : List zEnt := zE 32 (.aload_n 0) 1 :: zE 33 (.iload_n 1) 1 :: q_X5_takeOperator_34
def q_X5_takeOperator_29 : List zEnt := zEa 29 (.if_icmp .lt 21) 3 50 :: q_X5_takeOperator_32
def q_X5_takeOperator_25 : List zEnt := zE 25 (.istore_n 1) 1 :: zE 26 (.iload_n 1) 1 :: zEk 27 (.bipush 50) 2 50 :: q_X5_takeOperator_29
def q_X5_takeOperator_66 : List zEnt := zEa 66 (.goto 64) 3 130 :: []
def q_X5_takeOperator_63 : List zEnt := zEc 63 (.invokevirtual 76) 3 46 1 47 1 :: q_X5_takeOperator_66
def q_X5_takeOperator_62 : List zEnt := zE 62 (.aload_n 0) 1 :: q_X5_takeOperator_63
def q_X5_takeOperator_59 : List zEnt := zEa 59 (.ifCond .eq 10) 3 69 :: q_X5_takeOperator_62
def q_X5_takeOperator_55 : List zEnt := zE 55 (.aload_n 0) 1 :: zEf 56 (.getfield 104) 3 5 3 24 (0, 1, 0) :: q_X5_takeOperator_59
def q_X5_takeOperator_52 : List zEnt := zEa 52 (.if_icmp .ne 17) 3 69 :: q_X5_takeOperator_55
def q_X5_takeOperator_50 : List zEnt := zE 50 (.iload_n 1) 1 :: zEk 51 (.iconst (-1)) 1 (-1) :: q_X5_takeOperator_52
def q_X5_takeOperator_78 : List zEnt := zEa 78 (.ifCond .eq 14) 3 92 :: [zE 81 .nop 0]
def q_X5_takeOperator_74 : List zEnt := zE 74 (.aload_n 0) 1 :: zEf 75 (.getfield 104) 3 5 3 24 (0, 1, 0) :: q_X5_takeOperator_78
def q_X5_takeOperator_71 : List zEnt := zEa 71 (.if_icmp .eq 10) 3 81 :: q_X5_takeOperator_74
def q_X5_takeOperator_69 : List zEnt := zE 69 (.iload_n 1) 1 :: zEk 70 (.iconst (-1)) 1 (-1) :: q_X5_takeOperator_71
def q_X5_takeOperator_89 : List zEnt := zEa 89 (.goto 41) 3 130 :: []
def q_X5_takeOperator_86 : List zEnt := zEc 86 (.invokevirtual 87) 3 61 2 34 1 :: q_X5_takeOperator_89
def q_X5_takeOperator_81 : List zEnt := zE 81 (.aload_n 0) 1 :: zEf 82 (.getfield 17) 3 5 0 21 (2, 7, 0) :: zEk 85 (.iconst 0) 1 0 :: q_X5_takeOperator_86
def q_X5_takeOperator_107 : List zEnt := zEa 107 (.goto 23) 3 130 :: []
def q_X5_takeOperator_104 : List zEnt := zEc 104 (.invokevirtual 87) 3 61 2 34 1 :: q_X5_takeOperator_107
def q_X5_takeOperator_99 : List zEnt := zE 99 (.aload_n 0) 1 :: zEf 100 (.getfield 17) 3 5 0 21 (2, 7, 0) :: zEk 103 (.iconst 3) 1 3 :: q_X5_takeOperator_104
def q_X5_takeOperator_96 : List zEnt := zEa 96 (.ifCond .eq 14) 3 110 :: q_X5_takeOperator_99
def q_X5_takeOperator_93 : List zEnt := zEc 93 (.invokevirtual 121) 3 44 1 41 0 :: q_X5_takeOperator_96
def q_X5_takeOperator_92 : List zEnt := zE 92 (.aload_n 0) 1 :: q_X5_takeOperator_93
def q_X5_takeOperator_130 : List zEnt := zE 130 .return_ 1 :: []
def q_X5_takeOperator_127 : List zEnt := zEf 127 (.putfield 30) 3 5 2 23 (0, 0, 0) :: q_X5_takeOperator_130
def q_X5_takeOperator_125 : List zEnt := zE 125 (.aload_n 0) 1 :: zEk 126 (.iconst 2) 1 2 :: q_X5_takeOperator_127
def q_X5_takeOperator_122 : List zEnt := zEf 122 (.putfield 104) 3 5 3 24 (0, 1, 0) :: q_X5_takeOperator_125
def q_X5_takeOperator_120 : List zEnt := zE 120 (.aload_n 0) 1 :: zEk 121 (.iconst 1) 1 1 :: q_X5_takeOperator_122
def q_X5_takeOperator_117 : List zEnt := zEc 117 (.invokevirtual 108) 3 47 2 43 1 :: q_X5_takeOperator_120
def q_X5_takeOperator_115 : List zEnt := zE 115 (.aload_n 0) 1 :: zE 116 (.iload_n 1) 1 :: q_X5_takeOperator_117
def q_X5_takeOperator_112 : List zEnt := zEc 112 (.invokevirtual 132) 3 48 2 46 1 :: q_X5_takeOperator_115
def q_X5_takeOperator_110 : List zEnt := zE 110 (.aload_n 0) 1 :: zE 111 (.iload_n 1) 1 :: q_X5_takeOperator_112
def b_X5_takeOperator : List (Nat × List zEnt) := [(0, q_X5_takeOperator_0), (24, q_X5_takeOperator_24), (25, q_X5_takeOperator_25), (50, q_X5_takeOperator_50), (69, q_X5_takeOperator_69), (81, q_X5_takeOperator_81), (92, q_X5_takeOperator_92), (110, q_X5_takeOperator_110), (130, q_X5_takeOperator_130)]
theorem bk_X5_takeOperator : zchB 45 b_X5_takeOperator = true := by decide +kernel
noncomputable def cc_X5_takeOperator {ρ : Type} : Nat → zH → List zAV → (zH → zAV → Option ρ) → Option ρ := fun n σ av q => if n = 51 then g_X5_operatorOf σ av q else if n = 48 then g_X5_release σ av q else if n = 47 then g_X5_hold σ av q else if n = 46 then g_X5_takeJoint σ av q else if n = 61 then g_X7_fail σ av q else if n = 44 then g_X5_isPartTooMany σ av q else none
theorem cs_X5_takeOperator {ρ : Type} {X : zX} (hX : zHX X) : zCS X (cc_X5_takeOperator (ρ := ρ)) := by
  intro n σ av q r h hv
  unfold cc_X5_takeOperator at h
  by_cases e_X5_operatorOf : n = 51
  · rw [if_pos e_X5_operatorOf] at h
    subst e_X5_operatorOf
    exact c_X5_operatorOf hX h hv
  rw [if_neg e_X5_operatorOf] at h
  by_cases e_X5_release : n = 48
  · rw [if_pos e_X5_release] at h
    subst e_X5_release
    exact c_X5_release hX h hv
  rw [if_neg e_X5_release] at h
  by_cases e_X5_hold : n = 47
  · rw [if_pos e_X5_hold] at h
    subst e_X5_hold
    exact c_X5_hold hX h hv
  rw [if_neg e_X5_hold] at h
  by_cases e_X5_takeJoint : n = 46
  · rw [if_pos e_X5_takeJoint] at h
    subst e_X5_takeJoint
    exact c_X5_takeJoint hX h hv
  rw [if_neg e_X5_takeJoint] at h
  by_cases e_X7_fail : n = 61
  · rw [if_pos e_X7_fail] at h
    subst e_X7_fail
    exact c_X7_fail hX h hv
  rw [if_neg e_X7_fail] at h
  by_cases e_X5_isPartTooMany : n = 44
  · rw [if_pos e_X5_isPartTooMany] at h
    subst e_X5_isPartTooMany
    exact c_X5_isPartTooMany hX h hv
  rw [if_neg e_X5_isPartTooMany] at h
  cases h
theorem cl_X5_takeOperator_X5_operatorOf {ρ : Type} (σ : zH) (av : List zAV) (q : zH → zAV → Option ρ) : cc_X5_takeOperator 51 σ av q = g_X5_operatorOf σ av q := rfl
theorem cl_X5_takeOperator_X5_release {ρ : Type} (σ : zH) (av : List zAV) (q : zH → zAV → Option ρ) : cc_X5_takeOperator 48 σ av q = g_X5_release σ av q := rfl
theorem cl_X5_takeOperator_X5_hold {ρ : Type} (σ : zH) (av : List zAV) (q : zH → zAV → Option ρ) : cc_X5_takeOperator 47 σ av q = g_X5_hold σ av q := rfl
theorem cl_X5_takeOperator_X5_takeJoint {ρ : Type} (σ : zH) (av : List zAV) (q : zH → zAV → Option ρ) : cc_X5_takeOperator 46 σ av q = g_X5_takeJoint σ av q := rfl
theorem cl_X5_takeOperator_X7_fail {ρ : Type} (σ : zH) (av : List zAV) (q : zH → zAV → Option ρ) : cc_X5_takeOperator 61 σ av q = g_X7_fail σ av q := rfl
theorem cl_X5_takeOperator_X5_isPartTooMany {ρ : Type} (σ : zH) (av : List zAV) (q : zH → zAV → Option ρ) : cc_X5_takeOperator 44 σ av q = g_X5_isPartTooMany σ av q := rfl
theorem hy_X5_takeOperator {ρ : Type} {X : zX} (hX : zHX X) : zHY X 45 (cc_X5_takeOperator (ρ := ρ)) := zHX.hY hX (cs_X5_takeOperator hX) (zmok_all 45 (by decide))
def gl_X5_takeOperator_25 {ρ : Type} (f : zH → Int32 → Option ρ) (σ : zH) (L st : List zAV) : Option ρ := match L, st with
  | [.inr (.inr (.inl (5, 0))), _], [.inl xs0] => f σ xs0
  | _, _ => none
def gl_X5_takeOperator_69 {ρ : Type} (f : zH → Int32 → Option ρ) (σ : zH) (L st : List zAV) : Option ρ := match L, st with
  | [.inr (.inr (.inl (5, 0))), .inl x1], [] => f σ x1
  | _, _ => none
def gl_X5_takeOperator_81 {ρ : Type} (f : zH → Option ρ) (σ : zH) (L st : List zAV) : Option ρ := match L, st with
  | [.inr (.inr (.inl (5, 0))), _], [] => f σ
  | _, _ => none
theorem glr_X5_takeOperator_25 {ρ : Type} (f : zH → Int32 → Option ρ) (σ : zH) (xs0 : Int32) (y1 : zAV) : gl_X5_takeOperator_25 f σ [vR 5 0, y1] [vI xs0] = f σ xs0 := rfl
theorem glr_X5_takeOperator_69 {ρ : Type} (f : zH → Int32 → Option ρ) (σ : zH) (x1 : Int32)  : gl_X5_takeOperator_69 f σ [vR 5 0, vI x1] [] = f σ x1 := rfl
theorem glr_X5_takeOperator_81 {ρ : Type} (f : zH → Option ρ) (σ : zH)  (y1 : zAV) : gl_X5_takeOperator_81 f σ [vR 5 0, y1] [] = f σ := rfl
theorem t_X5_takeOperator_0 {G : Nat → zH → List zAV → List zAV → Option zH} (es : List zEnt) (σ : zH)  (y1 : zAV) (w7 : Int32) : zev cc_X5_takeOperator G 9 krV (zE 0 (.aload_n 0) 1 :: zEf 1 (.getfield 17) 3 5 0 21 (2, 7, 0) :: zEf 4 (.getfield 111) 3 7 3 10 (0, 0, 0) :: zEk 7 (.iconst 3) 1 w7 :: es) σ [vR 5 0, y1] [] = zev cc_X5_takeOperator G 9 krV es σ [vR 5 0, y1] [vI w7, vI (σ.1 7 0 3)] := rfl
theorem t_X5_takeOperator_11 {G : Nat → zH → List zAV → List zAV → Option zH} (es : List zEnt) (σ : zH)  (y1 : zAV)  : zev cc_X5_takeOperator G 9 krV (zE 11 (.aload_n 0) 1 :: zEf 12 (.getfield 17) 3 5 0 21 (2, 7, 0) :: zEf 15 (.getfield 118) 3 7 4 12 (0, 0, 0) :: es) σ [vR 5 0, y1] [] = zev cc_X5_takeOperator G 9 krV es σ [vR 5 0, y1] [vI (σ.1 7 0 4)] := rfl
theorem t_X5_takeOperator_24 {G : Nat → zH → List zAV → List zAV → Option zH} (es : List zEnt) (σ : zH)  (y1 : zAV) (w24 : Int32) : zev cc_X5_takeOperator G 9 krV (zEk 24 (.iconst (-1)) 1 w24 :: es) σ [vR 5 0, y1] [] = zev cc_X5_takeOperator G 9 krV es σ [vR 5 0, y1] [vI w24] := rfl
theorem t_X5_takeOperator_25 {G : Nat → zH → List zAV → List zAV → Option zH} (es : List zEnt) (σ : zH) (xs0 : Int32) (y1 : zAV) (w27 : Int32) : zev cc_X5_takeOperator G 9 krV (zE 25 (.istore_n 1) 1 :: zE 26 (.iload_n 1) 1 :: zEk 27 (.bipush 50) 2 w27 :: es) σ [vR 5 0, y1] [vI xs0] = zev cc_X5_takeOperator G 9 krV es σ [vR 5 0, vI xs0] [vI w27, vI xs0] := rfl
theorem t_X5_takeOperator_32 {G : Nat → zH → List zAV → List zAV → Option zH} (es : List zEnt) (σ : zH) (x1 : Int32)   : zev cc_X5_takeOperator G 9 krV (zE 32 (.aload_n 0) 1 :: zE 33 (.iload_n 1) 1 :: es) σ [vR 5 0, vI x1] [] = zev cc_X5_takeOperator G 9 krV es σ [vR 5 0, vI x1] [vI x1, vR 5 0] := rfl
theorem t_X5_takeOperator_37 {G : Nat → zH → List zAV → List zAV → Option zH} (es : List zEnt) (σ : zH) (x1 : Int32)   : zev cc_X5_takeOperator G 9 krV (zE 37 (.aload_n 0) 1 :: zE 38 (.iload_n 1) 1 :: es) σ [vR 5 0, vI x1] [] = zev cc_X5_takeOperator G 9 krV es σ [vR 5 0, vI x1] [vI x1, vR 5 0] := rfl
theorem t_X5_takeOperator_42 {G : Nat → zH → List zAV → List zAV → Option zH} (es : List zEnt) (σ : zH)  (y1 : zAV) (w43 : Int32) : zev cc_X5_takeOperator G 9 krV (zE 42 (.aload_n 0) 1 :: zEk 43 (.iconst 2) 1 w43 :: es) σ [vR 5 0, y1] [] = zev cc_X5_takeOperator G 9 krV es σ [vR 5 0, y1] [vI w43, vR 5 0] := rfl
theorem t_X5_takeOperator_50 {G : Nat → zH → List zAV → List zAV → Option zH} (es : List zEnt) (σ : zH) (x1 : Int32)  (w51 : Int32) : zev cc_X5_takeOperator G 9 krV (zE 50 (.iload_n 1) 1 :: zEk 51 (.iconst (-1)) 1 w51 :: es) σ [vR 5 0, vI x1] [] = zev cc_X5_takeOperator G 9 krV es σ [vR 5 0, vI x1] [vI w51, vI x1] := rfl
theorem t_X5_takeOperator_55 {G : Nat → zH → List zAV → List zAV → Option zH} (es : List zEnt) (σ : zH) (x1 : Int32)   : zev cc_X5_takeOperator G 9 krV (zE 55 (.aload_n 0) 1 :: zEf 56 (.getfield 104) 3 5 3 24 (0, 1, 0) :: es) σ [vR 5 0, vI x1] [] = zev cc_X5_takeOperator G 9 krV es σ [vR 5 0, vI x1] [vI (σ.1 5 0 3)] := rfl
theorem t_X5_takeOperator_62 {G : Nat → zH → List zAV → List zAV → Option zH} (es : List zEnt) (σ : zH)  (y1 : zAV)  : zev cc_X5_takeOperator G 9 krV (zE 62 (.aload_n 0) 1 :: es) σ [vR 5 0, y1] [] = zev cc_X5_takeOperator G 9 krV es σ [vR 5 0, y1] [vR 5 0] := rfl
theorem t_X5_takeOperator_69 {G : Nat → zH → List zAV → List zAV → Option zH} (es : List zEnt) (σ : zH) (x1 : Int32)  (w70 : Int32) : zev cc_X5_takeOperator G 9 krV (zE 69 (.iload_n 1) 1 :: zEk 70 (.iconst (-1)) 1 w70 :: es) σ [vR 5 0, vI x1] [] = zev cc_X5_takeOperator G 9 krV es σ [vR 5 0, vI x1] [vI w70, vI x1] := rfl
theorem t_X5_takeOperator_74 {G : Nat → zH → List zAV → List zAV → Option zH} (es : List zEnt) (σ : zH) (x1 : Int32)   : zev cc_X5_takeOperator G 9 krV (zE 74 (.aload_n 0) 1 :: zEf 75 (.getfield 104) 3 5 3 24 (0, 1, 0) :: es) σ [vR 5 0, vI x1] [] = zev cc_X5_takeOperator G 9 krV es σ [vR 5 0, vI x1] [vI (σ.1 5 0 3)] := rfl
theorem t_X5_takeOperator_81 {G : Nat → zH → List zAV → List zAV → Option zH} (es : List zEnt) (σ : zH)  (y1 : zAV) (w85 : Int32) : zev cc_X5_takeOperator G 9 krV (zE 81 (.aload_n 0) 1 :: zEf 82 (.getfield 17) 3 5 0 21 (2, 7, 0) :: zEk 85 (.iconst 0) 1 w85 :: es) σ [vR 5 0, y1] [] = zev cc_X5_takeOperator G 9 krV es σ [vR 5 0, y1] [vI w85, vR 7 0] := rfl
theorem t_X5_takeOperator_92 {G : Nat → zH → List zAV → List zAV → Option zH} (es : List zEnt) (σ : zH) (x1 : Int32)   : zev cc_X5_takeOperator G 9 krV (zE 92 (.aload_n 0) 1 :: es) σ [vR 5 0, vI x1] [] = zev cc_X5_takeOperator G 9 krV es σ [vR 5 0, vI x1] [vR 5 0] := rfl
theorem t_X5_takeOperator_99 {G : Nat → zH → List zAV → List zAV → Option zH} (es : List zEnt) (σ : zH)  (y1 : zAV) (w103 : Int32) : zev cc_X5_takeOperator G 9 krV (zE 99 (.aload_n 0) 1 :: zEf 100 (.getfield 17) 3 5 0 21 (2, 7, 0) :: zEk 103 (.iconst 3) 1 w103 :: es) σ [vR 5 0, y1] [] = zev cc_X5_takeOperator G 9 krV es σ [vR 5 0, y1] [vI w103, vR 7 0] := rfl
theorem t_X5_takeOperator_110 {G : Nat → zH → List zAV → List zAV → Option zH} (es : List zEnt) (σ : zH) (x1 : Int32)   : zev cc_X5_takeOperator G 9 krV (zE 110 (.aload_n 0) 1 :: zE 111 (.iload_n 1) 1 :: es) σ [vR 5 0, vI x1] [] = zev cc_X5_takeOperator G 9 krV es σ [vR 5 0, vI x1] [vI x1, vR 5 0] := rfl
theorem t_X5_takeOperator_115 {G : Nat → zH → List zAV → List zAV → Option zH} (es : List zEnt) (σ : zH) (x1 : Int32)   : zev cc_X5_takeOperator G 9 krV (zE 115 (.aload_n 0) 1 :: zE 116 (.iload_n 1) 1 :: es) σ [vR 5 0, vI x1] [] = zev cc_X5_takeOperator G 9 krV es σ [vR 5 0, vI x1] [vI x1, vR 5 0] := rfl
theorem t_X5_takeOperator_120 {G : Nat → zH → List zAV → List zAV → Option zH} (es : List zEnt) (σ : zH)  (y1 : zAV) (w121 : Int32) : zev cc_X5_takeOperator G 9 krV (zE 120 (.aload_n 0) 1 :: zEk 121 (.iconst 1) 1 w121 :: es) σ [vR 5 0, y1] [] = zev cc_X5_takeOperator G 9 krV es σ [vR 5 0, y1] [vI w121, vR 5 0] := rfl
theorem t_X5_takeOperator_125 {G : Nat → zH → List zAV → List zAV → Option zH} (es : List zEnt) (σ : zH)  (y1 : zAV) (w126 : Int32) : zev cc_X5_takeOperator G 9 krV (zE 125 (.aload_n 0) 1 :: zEk 126 (.iconst 2) 1 w126 :: es) σ [vR 5 0, y1] [] = zev cc_X5_takeOperator G 9 krV es σ [vR 5 0, y1] [vI w126, vR 5 0] := rfl
noncomputable def j_X5_takeOperator_81  (σ : zH)  : Option zH :=
  (d_X7_fail σ (0 : Int32)).bind fun σ1 =>
  some σ1
theorem e_X5_takeOperator_81  (σ : zH)  (y1 : zAV) : j_X5_takeOperator_81 σ = zin cc_X5_takeOperator (fun t => none) 9 krV b_X5_takeOperator 81 σ [vR 5 0, y1] [] := by
  unfold j_X5_takeOperator_81
  refine Eq.symm ((zin_b (es := q_X5_takeOperator_81) rfl).trans ?_)
  refine (t_X5_takeOperator_81 _ _ _ _).trans ?_
  refine (x_callV rfl rfl rfl rfl).trans ((cl_X5_takeOperator_X7_fail _ _ _).trans ((gr_X7_fail _ _ _).trans (pbd fun _ => ?_)))
  refine x_goto.trans ?_
  refine (zrun_b (es := q_X5_takeOperator_130) rfl rfl).trans ?_
  exact x_vret
theorem s_X5_takeOperator_81 {X : zX} (hX : zHX X)   : ∀ σ L st r, gl_X5_takeOperator_81 j_X5_takeOperator_81 σ L st = some r → zGW X 45 krV 81 σ L st r := by
  intro σ L st r h
  unfold gl_X5_takeOperator_81 at h
  split at h
  · exact zin_ok (hy_X5_takeOperator hX) bk_X5_takeOperator (fun t f hf => by
    cases hf) ((e_X5_takeOperator_81 _ _).symm.trans h)
  · cases h
noncomputable def j_X5_takeOperator_69  (σ : zH) (x1 : Int32) : Option zH :=
  if x1 = (-1 : Int32) then
    j_X5_takeOperator_81 σ
  else
    if (σ.1 5 0 3) = 0 then
      (d_X5_isPartTooMany σ).bind fun p1 =>
      if p1.2 = 0 then
        (d_X5_release p1.1 x1).bind fun σ2 =>
        (d_X5_hold σ2 x1).bind fun σ3 =>
        zlet (uI σ3 5 0 3 (1 : Int32)) fun σ4 =>
        zlet (uI σ4 5 0 2 (2 : Int32)) fun σ5 =>
        some σ5
      else
        (d_X7_fail p1.1 (3 : Int32)).bind fun σ6 =>
        some σ6
    else
      j_X5_takeOperator_81 σ
theorem e_X5_takeOperator_69  (σ : zH) (x1 : Int32)  : j_X5_takeOperator_69 σ x1 = zin cc_X5_takeOperator (fun t => if t = 81 then some (gl_X5_takeOperator_81 j_X5_takeOperator_81) else none) 9 krV b_X5_takeOperator 69 σ [vR 5 0, vI x1] [] := by
  unfold j_X5_takeOperator_69
  refine Eq.symm ((zin_b (es := q_X5_takeOperator_69) rfl).trans ?_)
  refine (t_X5_takeOperator_69 _ _ _ _).trans ?_
  refine x_icmp.trans (pif_eq ?_ ?_)
  · exact (zrun_c rfl).trans (glr_X5_takeOperator_81 _ _ _)
  · refine (t_X5_takeOperator_74 _ _ _).trans ?_
    refine x_if.trans (pif_eq ?_ ?_)
    · refine (zrun_b (es := q_X5_takeOperator_92) rfl rfl).trans ?_
      refine (t_X5_takeOperator_92 _ _ _).trans ?_
      refine (x_callV rfl rfl rfl rfl).trans ((cl_X5_takeOperator_X5_isPartTooMany _ _ _).trans ((gr_X5_isPartTooMany _ _).trans (pbd fun _ => ?_)))
      refine x_if.trans (pif_eq ?_ ?_)
      · refine (zrun_b (es := q_X5_takeOperator_110) rfl rfl).trans ?_
        refine (t_X5_takeOperator_110 _ _ _).trans ?_
        refine (x_callV rfl rfl rfl rfl).trans ((cl_X5_takeOperator_X5_release _ _ _).trans ((gr_X5_release _ _ _).trans (pbd fun _ => ?_)))
        refine (t_X5_takeOperator_115 _ _ _).trans ?_
        refine (x_callV rfl rfl rfl rfl).trans ((cl_X5_takeOperator_X5_hold _ _ _).trans ((gr_X5_hold _ _ _).trans (pbd fun _ => ?_)))
        refine (t_X5_takeOperator_120 _ _ _ _).trans ?_
        refine (x_pf1.trans (tv_l (by decide +kernel))).trans (plt fun _ => ?_)
        refine (t_X5_takeOperator_125 _ _ _ _).trans ?_
        refine x_pf0.trans (plt fun _ => ?_)
        exact x_vret
      · refine (t_X5_takeOperator_99 _ _ _ _).trans ?_
        refine (x_callV rfl rfl rfl rfl).trans ((cl_X5_takeOperator_X7_fail _ _ _).trans ((gr_X7_fail _ _ _).trans (pbd fun _ => ?_)))
        refine x_goto.trans ?_
        refine (zrun_b (es := q_X5_takeOperator_130) rfl rfl).trans ?_
        exact x_vret
    · refine x_cut.trans ?_
      exact (zrun_c rfl).trans (glr_X5_takeOperator_81 _ _ _)
theorem s_X5_takeOperator_69 {X : zX} (hX : zHX X)   : ∀ σ L st r, gl_X5_takeOperator_69 j_X5_takeOperator_69 σ L st = some r → zGW X 45 krV 69 σ L st r := by
  intro σ L st r h
  unfold gl_X5_takeOperator_69 at h
  split at h
  · exact zin_ok (hy_X5_takeOperator hX) bk_X5_takeOperator (fun t f hf => by
    by_cases e81 : t = 81
    · rw [if_pos e81] at hf; subst e81; cases hf; exact (s_X5_takeOperator_81 hX)
    rw [if_neg e81] at hf
    cases hf) ((e_X5_takeOperator_69 _ _).symm.trans h)
  · cases h
noncomputable def j_X5_takeOperator_25  (σ : zH) (xs0 : Int32) : Option zH :=
  if xs0 < (50 : Int32) then
    if xs0 = (-1 : Int32) then
      if (σ.1 5 0 3) = 0 then
        j_X5_takeOperator_69 σ xs0
      else
        (d_X5_takeJoint σ).bind fun σ1 =>
        some σ1
    else
      j_X5_takeOperator_69 σ xs0
  else
    (d_X5_release σ xs0).bind fun σ2 =>
    (d_X5_hold σ2 xs0).bind fun σ3 =>
    zlet (uI σ3 5 0 2 (2 : Int32)) fun σ4 =>
    some σ4
theorem e_X5_takeOperator_25  (σ : zH) (xs0 : Int32) (y1 : zAV) : j_X5_takeOperator_25 σ xs0 = zin cc_X5_takeOperator (fun t => if t = 69 then some (gl_X5_takeOperator_69 j_X5_takeOperator_69) else none) 9 krV b_X5_takeOperator 25 σ [vR 5 0, y1] [vI xs0] := by
  unfold j_X5_takeOperator_25
  refine Eq.symm ((zin_b (es := q_X5_takeOperator_25) rfl).trans ?_)
  refine (t_X5_takeOperator_25 _ _ _ _ _).trans ?_
  refine x_icmp.trans (pif_lt ?_ ?_)
  · refine (zrun_b (es := q_X5_takeOperator_50) rfl rfl).trans ?_
    refine (t_X5_takeOperator_50 _ _ _ _).trans ?_
    refine x_icmp.trans (pif_ne ?_ ?_)
    · exact (zrun_c rfl).trans (glr_X5_takeOperator_69 _ _ _)
    · refine (t_X5_takeOperator_55 _ _ _).trans ?_
      refine x_if.trans (pif_eq ?_ ?_)
      · exact (zrun_c rfl).trans (glr_X5_takeOperator_69 _ _ _)
      · refine (t_X5_takeOperator_62 _ _ _).trans ?_
        refine (x_callV rfl rfl rfl rfl).trans ((cl_X5_takeOperator_X5_takeJoint _ _ _).trans ((gr_X5_takeJoint _ _).trans (pbd fun _ => ?_)))
        refine x_goto.trans ?_
        refine (zrun_b (es := q_X5_takeOperator_130) rfl rfl).trans ?_
        exact x_vret
  · refine (t_X5_takeOperator_32 _ _ _).trans ?_
    refine (x_callV rfl rfl rfl rfl).trans ((cl_X5_takeOperator_X5_release _ _ _).trans ((gr_X5_release _ _ _).trans (pbd fun _ => ?_)))
    refine (t_X5_takeOperator_37 _ _ _).trans ?_
    refine (x_callV rfl rfl rfl rfl).trans ((cl_X5_takeOperator_X5_hold _ _ _).trans ((gr_X5_hold _ _ _).trans (pbd fun _ => ?_)))
    refine (t_X5_takeOperator_42 _ _ _ _).trans ?_
    refine x_pf0.trans (plt fun _ => ?_)
    refine x_goto.trans ?_
    refine (zrun_b (es := q_X5_takeOperator_130) rfl rfl).trans ?_
    exact x_vret
theorem s_X5_takeOperator_25 {X : zX} (hX : zHX X)   : ∀ σ L st r, gl_X5_takeOperator_25 j_X5_takeOperator_25 σ L st = some r → zGW X 45 krV 25 σ L st r := by
  intro σ L st r h
  unfold gl_X5_takeOperator_25 at h
  split at h
  · exact zin_ok (hy_X5_takeOperator hX) bk_X5_takeOperator (fun t f hf => by
    by_cases e69 : t = 69
    · rw [if_pos e69] at hf; subst e69; cases hf; exact (s_X5_takeOperator_69 hX)
    rw [if_neg e69] at hf
    cases hf) ((e_X5_takeOperator_25 _ _ _).symm.trans h)
  · cases h
noncomputable def d_X5_takeOperator (σ : zH)  : Option zH :=
  if (σ.1 7 0 3) = (3 : Int32) then
    (d_X5_operatorOf σ (σ.1 7 0 4)).bind fun p1 =>
    j_X5_takeOperator_25 p1.1 p1.2
  else
    j_X5_takeOperator_25 σ (-1 : Int32)
theorem e_X5_takeOperator (σ : zH)  : d_X5_takeOperator σ = zin cc_X5_takeOperator (fun t => if t = 25 then some (gl_X5_takeOperator_25 j_X5_takeOperator_25) else none) 9 krV b_X5_takeOperator 0 σ [vR 5 0, vU] [] := by
  unfold d_X5_takeOperator
  refine Eq.symm ((zin_b (es := q_X5_takeOperator_0) rfl).trans ?_)
  refine (t_X5_takeOperator_0 _ _ _ _).trans ?_
  refine x_icmp.trans (pif_ne ?_ ?_)
  · refine (zrun_b (es := q_X5_takeOperator_24) rfl rfl).trans ?_
    refine (t_X5_takeOperator_24 _ _ _ _).trans ?_
    refine x_cut.trans ?_
    exact (zrun_c rfl).trans (glr_X5_takeOperator_25 _ _ _ _)
  · refine (t_X5_takeOperator_11 _ _ _).trans ?_
    refine (x_callS rfl rfl rfl rfl).trans ((cl_X5_takeOperator_X5_operatorOf _ _ _).trans ((gr_X5_operatorOf _ _ _).trans (pbd fun _ => ?_)))
    refine x_goto.trans ?_
    exact (zrun_c rfl).trans (glr_X5_takeOperator_25 _ _ _ _)
noncomputable def g_X5_takeOperator {ρ : Type} (σ : zH) (av : List zAV) (q : zH → zAV → Option ρ) : Option ρ := match av with
  | [.inr (.inr (.inl (5, 0)))] => (d_X5_takeOperator σ).bind fun σ => q σ vU
  | _ => none
theorem gr_X5_takeOperator {ρ : Type} (σ : zH)  (q : zH → zAV → Option ρ) : g_X5_takeOperator σ [vR 5 0] q = (d_X5_takeOperator σ).bind fun σ => q σ vU := rfl
theorem c_X5_takeOperator {ρ : Type} {X : zX} (hX : zHX X) {σ : zH} {av : List zAV} {q : zH → zAV → Option ρ} {r : ρ} (h : g_X5_takeOperator σ av q = some r) (hv : ∀ a ∈ av, zval X a) : zcon X 45 σ av q r := by
  unfold g_X5_takeOperator at h
  split at h
  · exact zcon_V (n := 45) (ml := 2) (rc := 9) (st := 0) (kd := 5) (np := 0) (by decide +kernel) rfl ⟨_, _, rfl, rfl⟩ (Nat.le_of_ble_eq_true rfl) hv h (fun y h1 => (zin_ok (hy_X5_takeOperator hX) bk_X5_takeOperator (fun t f hf => by
      by_cases e25 : t = 25
      · rw [if_pos e25] at hf; subst e25; cases hf; exact (s_X5_takeOperator_25 hX)
      rw [if_neg e25] at hf
      cases hf) ((e_X5_takeOperator _).symm.trans h1)))
  · cases h
/-! SleepWaves$LawReader.take()V -/
def q_X5_take_4 : List zEnt := (4, (.tableswitch 60 0 3 #[32, 39, 46, 53]), 32, (64, 0, 0, 0), (0, 0, 0), 0, 0, [(0, 36), (1, 43), (2, 50), (3, 57)]) :: []
def q_X5_take_0 : List zEnt := zE 0 (.aload_n 0) 1 :: zEf 1 (.getfield 30) 3 5 2 23 (0, 0, 0) :: q_X5_take_4
def q_X5_take_40 : List zEnt := zEa 40 (.goto 28) 3 68 :: []
def q_X5_take_37 : List zEnt := zEc 37 (.invokevirtual 64) 3 41 1 32 1 :: q_X5_take_40
def q_X5_take_36 : List zEnt := zE 36 (.aload_n 0) 1 :: q_X5_take_37
def q_X5_take_47 : List zEnt := zEa 47 (.goto 21) 3 68 :: []
def q_X5_take_44 : List zEnt := zEc 44 (.invokevirtual 67) 3 42 1 37 1 :: q_X5_take_47
def q_X5_take_43 : List zEnt := zE 43 (.aload_n 0) 1 :: q_X5_take_44
def q_X5_take_54 : List zEnt := zEa 54 (.goto 14) 3 68 :: []
def q_X5_take_51 : List zEnt := zEc 51 (.invokevirtual 70) 3 43 1 39 1 :: q_X5_take_54
def q_X5_take_50 : List zEnt := zE 50 (.aload_n 0) 1 :: q_X5_take_51
def q_X5_take_61 : List zEnt := zEa 61 (.goto 7) 3 68 :: []
def q_X5_take_58 : List zEnt := zEc 58 (.invokevirtual 73) 3 45 1 44 1 :: q_X5_take_61
def q_X5_take_57 : List zEnt := zE 57 (.aload_n 0) 1 :: q_X5_take_58
def q_X5_take_68 : List zEnt := zE 68 .return_ 1 :: []
def q_X5_take_65 : List zEnt := zEc 65 (.invokevirtual 76) 3 46 1 47 1 :: q_X5_take_68
def q_X5_take_64 : List zEnt := zE 64 (.aload_n 0) 1 :: q_X5_take_65
def b_X5_take : List (Nat × List zEnt) := [(0, q_X5_take_0), (36, q_X5_take_36), (43, q_X5_take_43), (50, q_X5_take_50), (57, q_X5_take_57), (64, q_X5_take_64), (68, q_X5_take_68)]
theorem bk_X5_take : zchB 40 b_X5_take = true := by decide +kernel
noncomputable def cc_X5_take {ρ : Type} : Nat → zH → List zAV → (zH → zAV → Option ρ) → Option ρ := fun n σ av q => if n = 41 then g_X5_takeClause σ av q else if n = 42 then g_X5_takeFact σ av q else if n = 43 then g_X5_takeValue σ av q else if n = 45 then g_X5_takeOperator σ av q else if n = 46 then g_X5_takeJoint σ av q else none
theorem cs_X5_take {ρ : Type} {X : zX} (hX : zHX X) : zCS X (cc_X5_take (ρ := ρ)) := by
  intro n σ av q r h hv
  unfold cc_X5_take at h
  by_cases e_X5_takeClause : n = 41
  · rw [if_pos e_X5_takeClause] at h
    subst e_X5_takeClause
    exact c_X5_takeClause hX h hv
  rw [if_neg e_X5_takeClause] at h
  by_cases e_X5_takeFact : n = 42
  · rw [if_pos e_X5_takeFact] at h
    subst e_X5_takeFact
    exact c_X5_takeFact hX h hv
  rw [if_neg e_X5_takeFact] at h
  by_cases e_X5_takeValue : n = 43
  · rw [if_pos e_X5_takeValue] at h
    subst e_X5_takeValue
    exact c_X5_takeValue hX h hv
  rw [if_neg e_X5_takeValue] at h
  by_cases e_X5_takeOperator : n = 45
  · rw [if_pos e_X5_takeOperator] at h
    subst e_X5_takeOperator
    exact c_X5_takeOperator hX h hv
  rw [if_neg e_X5_takeOperator] at h
  by_cases e_X5_takeJoint : n = 46
  · rw [if_pos e_X5_takeJoint] at h
    subst e_X5_takeJoint
    exact c_X5_takeJoint hX h hv
  rw [if_neg e_X5_takeJoint] at h
  cases h
theorem cl_X5_take_X5_takeClause {ρ : Type} (σ : zH) (av : List zAV) (q : zH → zAV → Option ρ) : cc_X5_take 41 σ av q = g_X5_takeClause σ av q := rfl
theorem cl_X5_take_X5_takeFact {ρ : Type} (σ : zH) (av : List zAV) (q : zH → zAV → Option ρ) : cc_X5_take 42 σ av q = g_X5_takeFact σ av q := rfl
theorem cl_X5_take_X5_takeValue {ρ : Type} (σ : zH) (av : List zAV) (q : zH → zAV → Option ρ) : cc_X5_take 43 σ av q = g_X5_takeValue σ av q := rfl
theorem cl_X5_take_X5_takeOperator {ρ : Type} (σ : zH) (av : List zAV) (q : zH → zAV → Option ρ) : cc_X5_take 45 σ av q = g_X5_takeOperator σ av q := rfl
theorem cl_X5_take_X5_takeJoint {ρ : Type} (σ : zH) (av : List zAV) (q : zH → zAV → Option ρ) : cc_X5_take 46 σ av q = g_X5_takeJoint σ av q := rfl
theorem hy_X5_take {ρ : Type} {X : zX} (hX : zHX X) : zHY X 40 (cc_X5_take (ρ := ρ)) := zHX.hY hX (cs_X5_take hX) (zmok_all 40 (by decide))
theorem t_X5_take_0 {G : Nat → zH → List zAV → List zAV → Option zH} (es : List zEnt) (σ : zH)    : zev cc_X5_take G 9 krV (zE 0 (.aload_n 0) 1 :: zEf 1 (.getfield 30) 3 5 2 23 (0, 0, 0) :: es) σ [vR 5 0] [] = zev cc_X5_take G 9 krV es σ [vR 5 0] [vI (σ.1 5 0 2)] := rfl
theorem t_X5_take_36 {G : Nat → zH → List zAV → List zAV → Option zH} (es : List zEnt) (σ : zH)    : zev cc_X5_take G 9 krV (zE 36 (.aload_n 0) 1 :: es) σ [vR 5 0] [] = zev cc_X5_take G 9 krV es σ [vR 5 0] [vR 5 0] := rfl
theorem t_X5_take_43 {G : Nat → zH → List zAV → List zAV → Option zH} (es : List zEnt) (σ : zH)    : zev cc_X5_take G 9 krV (zE 43 (.aload_n 0) 1 :: es) σ [vR 5 0] [] = zev cc_X5_take G 9 krV es σ [vR 5 0] [vR 5 0] := rfl
theorem t_X5_take_50 {G : Nat → zH → List zAV → List zAV → Option zH} (es : List zEnt) (σ : zH)    : zev cc_X5_take G 9 krV (zE 50 (.aload_n 0) 1 :: es) σ [vR 5 0] [] = zev cc_X5_take G 9 krV es σ [vR 5 0] [vR 5 0] := rfl
theorem t_X5_take_57 {G : Nat → zH → List zAV → List zAV → Option zH} (es : List zEnt) (σ : zH)    : zev cc_X5_take G 9 krV (zE 57 (.aload_n 0) 1 :: es) σ [vR 5 0] [] = zev cc_X5_take G 9 krV es σ [vR 5 0] [vR 5 0] := rfl
theorem t_X5_take_64 {G : Nat → zH → List zAV → List zAV → Option zH} (es : List zEnt) (σ : zH)    : zev cc_X5_take G 9 krV (zE 64 (.aload_n 0) 1 :: es) σ [vR 5 0] [] = zev cc_X5_take G 9 krV es σ [vR 5 0] [vR 5 0] := rfl
noncomputable def d_X5_take (σ : zH)  : Option zH :=
  if (σ.1 5 0 2) = (0 : Int32) then
    (d_X5_takeClause σ).bind fun σ1 =>
    some σ1
  else if (σ.1 5 0 2) = (1 : Int32) then
    (d_X5_takeFact σ).bind fun σ2 =>
    some σ2
  else if (σ.1 5 0 2) = (2 : Int32) then
    (d_X5_takeValue σ).bind fun σ3 =>
    some σ3
  else if (σ.1 5 0 2) = (3 : Int32) then
    (d_X5_takeOperator σ).bind fun σ4 =>
    some σ4
  else 
    (d_X5_takeJoint σ).bind fun σ5 =>
    some σ5
theorem e_X5_take (σ : zH)  : d_X5_take σ = zin cc_X5_take (fun t => none) 9 krV b_X5_take 0 σ [vR 5 0] [] := by
  unfold d_X5_take
  refine Eq.symm ((zin_b (es := q_X5_take_0) rfl).trans ?_)
  refine (t_X5_take_0 _ _).trans ?_
  refine x_tsw.trans ?_
  refine zsw_c ?_ ?_
  · refine (zrun_b (es := q_X5_take_36) rfl rfl).trans ?_
    refine (t_X5_take_36 _ _).trans ?_
    refine (x_callV rfl rfl rfl rfl).trans ((cl_X5_take_X5_takeClause _ _ _).trans ((gr_X5_takeClause _ _).trans (pbd fun _ => ?_)))
    refine x_goto.trans ?_
    refine (zrun_b (es := q_X5_take_68) rfl rfl).trans ?_
    exact x_vret
  refine zsw_c ?_ ?_
  · refine (zrun_b (es := q_X5_take_43) rfl rfl).trans ?_
    refine (t_X5_take_43 _ _).trans ?_
    refine (x_callV rfl rfl rfl rfl).trans ((cl_X5_take_X5_takeFact _ _ _).trans ((gr_X5_takeFact _ _).trans (pbd fun _ => ?_)))
    refine x_goto.trans ?_
    refine (zrun_b (es := q_X5_take_68) rfl rfl).trans ?_
    exact x_vret
  refine zsw_c ?_ ?_
  · refine (zrun_b (es := q_X5_take_50) rfl rfl).trans ?_
    refine (t_X5_take_50 _ _).trans ?_
    refine (x_callV rfl rfl rfl rfl).trans ((cl_X5_take_X5_takeValue _ _ _).trans ((gr_X5_takeValue _ _).trans (pbd fun _ => ?_)))
    refine x_goto.trans ?_
    refine (zrun_b (es := q_X5_take_68) rfl rfl).trans ?_
    exact x_vret
  refine zsw_c ?_ ?_
  · refine (zrun_b (es := q_X5_take_57) rfl rfl).trans ?_
    refine (t_X5_take_57 _ _).trans ?_
    refine (x_callV rfl rfl rfl rfl).trans ((cl_X5_take_X5_takeOperator _ _ _).trans ((gr_X5_takeOperator _ _).trans (pbd fun _ => ?_)))
    refine x_goto.trans ?_
    refine (zrun_b (es := q_X5_take_68) rfl rfl).trans ?_
    exact x_vret
  refine zsw_n ?_
  refine (zrun_b (es := q_X5_take_64) rfl rfl).trans ?_
  refine (t_X5_take_64 _ _).trans ?_
  refine (x_callV rfl rfl rfl rfl).trans ((cl_X5_take_X5_takeJoint _ _ _).trans ((gr_X5_takeJoint _ _).trans (pbd fun _ => ?_)))
  exact x_vret
noncomputable def g_X5_take {ρ : Type} (σ : zH) (av : List zAV) (q : zH → zAV → Option ρ) : Option ρ := match av with
  | [.inr (.inr (.inl (5, 0)))] => (d_X5_take σ).bind fun σ => q σ vU
  | _ => none
theorem gr_X5_take {ρ : Type} (σ : zH)  (q : zH → zAV → Option ρ) : g_X5_take σ [vR 5 0] q = (d_X5_take σ).bind fun σ => q σ vU := rfl
theorem c_X5_take {ρ : Type} {X : zX} (hX : zHX X) {σ : zH} {av : List zAV} {q : zH → zAV → Option ρ} {r : ρ} (h : g_X5_take σ av q = some r) (hv : ∀ a ∈ av, zval X a) : zcon X 40 σ av q r := by
  unfold g_X5_take at h
  split at h
  · exact zcon_V (n := 40) (ml := 1) (rc := 9) (st := 0) (kd := 5) (np := 0) (by decide +kernel) rfl ⟨_, _, rfl, rfl⟩ (Nat.le_of_ble_eq_true rfl) hv h (fun y h1 => (zin_ok (hy_X5_take hX) bk_X5_take (fun t f hf => by
      cases hf) ((e_X5_take _).symm.trans h1)))
  · cases h
/-! SleepWaves$LawReader.readLaw(LSleepWaves$Law;)I -/
def q_X5_readLaw_44 : List zEnt := zEk 44 (.iconst 0) 1 0 :: zE 45 (.istore_n 2) 1 :: [zE 46 .nop 0]
def q_X5_readLaw_41 : List zEnt := zEc 41 (.invokevirtual 46) 3 60 1 28 1 :: q_X5_readLaw_44
def q_X5_readLaw_37 : List zEnt := zE 37 (.aload_n 0) 1 :: zEf 38 (.getfield 17) 3 5 0 21 (2, 7, 0) :: q_X5_readLaw_41
def q_X5_readLaw_34 : List zEnt := zEf 34 (.putfield 43) 3 5 8 29 (0, 0, 0) :: q_X5_readLaw_37
def q_X5_readLaw_32 : List zEnt := zE 32 (.aload_n 0) 1 :: zEk 33 (.iconst 0) 1 0 :: q_X5_readLaw_34
def q_X5_readLaw_29 : List zEnt := zEf 29 (.putfield 40) 3 5 7 28 (0, 0, 0) :: q_X5_readLaw_32
def q_X5_readLaw_27 : List zEnt := zE 27 (.aload_n 0) 1 :: zEk 28 (.iconst 0) 1 0 :: q_X5_readLaw_29
def q_X5_readLaw_24 : List zEnt := zEf 24 (.putfield 37) 3 5 6 27 (0, 0, 0) :: q_X5_readLaw_27
def q_X5_readLaw_22 : List zEnt := zE 22 (.aload_n 0) 1 :: zEk 23 (.iconst 0) 1 0 :: q_X5_readLaw_24
def q_X5_readLaw_19 : List zEnt := zEf 19 (.putfield 34) 3 5 4 25 (0, 0, 0) :: q_X5_readLaw_22
def q_X5_readLaw_17 : List zEnt := zE 17 (.aload_n 0) 1 :: zEk 18 (.iconst 0) 1 0 :: q_X5_readLaw_19
def q_X5_readLaw_14 : List zEnt := zEf 14 (.putfield 30) 3 5 2 23 (0, 0, 0) :: q_X5_readLaw_17
def q_X5_readLaw_12 : List zEnt := zE 12 (.aload_n 0) 1 :: zEk 13 (.iconst 0) 1 0 :: q_X5_readLaw_14
def q_X5_readLaw_9 : List zEnt := zEc 9 (.invokevirtual 25) 3 31 1 27 1 :: q_X5_readLaw_12
def q_X5_readLaw_6 : List zEnt := zEf 6 (.getfield 21) 3 5 1 22 (3, 4, 0) :: q_X5_readLaw_9
def q_X5_readLaw_5 : List zEnt := zE 5 (.aload_n 0) 1 :: q_X5_readLaw_6
def q_X5_readLaw_2 : List zEnt := zEf 2 (.putfield 21) 3 5 1 22 (3, 4, 0) :: q_X5_readLaw_5
def q_X5_readLaw_0 : List zEnt := zE 0 (.aload_n 0) 1 :: zE 1 (.aload_n 1) 1 :: q_X5_readLaw_2
def q_X5_readLaw_85 : List zEnt := zEa 85 (.goto (-39)) 3 46 :: []
def q_X5_readLaw_82 : List zEnt := zEk 82 (.iinc 2 1) 3 1 :: q_X5_readLaw_85
def q_X5_readLaw_79 : List zEnt := zEc 79 (.invokevirtual 58) 3 40 1 31 1 :: q_X5_readLaw_82
def q_X5_readLaw_78 : List zEnt := zE 78 (.aload_n 0) 1 :: q_X5_readLaw_79
def q_X5_readLaw_75 : List zEnt := zEc 75 (.invokevirtual 55) 3 63 1 30 1 :: q_X5_readLaw_78
def q_X5_readLaw_71 : List zEnt := zE 71 (.aload_n 0) 1 :: zEf 72 (.getfield 17) 3 5 0 21 (2, 7, 0) :: q_X5_readLaw_75
def q_X5_readLaw_68 : List zEnt := zEa 68 (.ifCond .ne 20) 3 88 :: q_X5_readLaw_71
def q_X5_readLaw_65 : List zEnt := zEc 65 (.invokevirtual 51) 3 62 1 29 0 :: q_X5_readLaw_68
def q_X5_readLaw_61 : List zEnt := zE 61 (.aload_n 0) 1 :: zEf 62 (.getfield 17) 3 5 0 21 (2, 7, 0) :: q_X5_readLaw_65
def q_X5_readLaw_58 : List zEnt := zEa 58 (.if_icmp .eq 30) 3 88 :: q_X5_readLaw_61
def q_X5_readLaw_53 : List zEnt := zE 53 (.aload_n 0) 1 :: zEf 54 (.getfield 30) 3 5 2 23 (0, 0, 0) :: zEk 57 (.iconst 5) 1 5 :: q_X5_readLaw_58
def q_X5_readLaw_50 : List zEnt := zEa 50 (.if_icmp .gt 38) 3 88 :: q_X5_readLaw_53
def q_X5_readLaw_46 : List zEnt := zE 46 (.iload_n 2) 1 :: zEk 47 (.sipush 400) 3 400 :: q_X5_readLaw_50
def q_X5_readLaw_95 : List zEnt := zE 95 .ireturn 1 :: []
def q_X5_readLaw_88 : List zEnt := zE 88 (.aload_n 0) 1 :: zEf 89 (.getfield 17) 3 5 0 21 (2, 7, 0) :: zEf 92 (.getfield 61) 3 7 5 15 (0, 0, 0) :: q_X5_readLaw_95
def b_X5_readLaw : List (Nat × List zEnt) := [(0, q_X5_readLaw_0), (46, q_X5_readLaw_46), (88, q_X5_readLaw_88)]
theorem bk_X5_readLaw : zchB 39 b_X5_readLaw = true := by decide +kernel
noncomputable def cc_X5_readLaw {ρ : Type} : Nat → zH → List zAV → (zH → zAV → Option ρ) → Option ρ := fun n σ av q => if n = 31 then g_X4_clear σ av q else if n = 60 then g_X7_begin σ av q else if n = 62 then g_X7_failed σ av q else if n = 63 then g_X7_next σ av q else if n = 40 then g_X5_take σ av q else none
theorem cs_X5_readLaw {ρ : Type} {X : zX} (hX : zHX X) : zCS X (cc_X5_readLaw (ρ := ρ)) := by
  intro n σ av q r h hv
  unfold cc_X5_readLaw at h
  by_cases e_X4_clear : n = 31
  · rw [if_pos e_X4_clear] at h
    subst e_X4_clear
    exact c_X4_clear hX h hv
  rw [if_neg e_X4_clear] at h
  by_cases e_X7_begin : n = 60
  · rw [if_pos e_X7_begin] at h
    subst e_X7_begin
    exact c_X7_begin hX h hv
  rw [if_neg e_X7_begin] at h
  by_cases e_X7_failed : n = 62
  · rw [if_pos e_X7_failed] at h
    subst e_X7_failed
    exact c_X7_failed hX h hv
  rw [if_neg e_X7_failed] at h
  by_cases e_X7_next : n = 63
  · rw [if_pos e_X7_next] at h
    subst e_X7_next
    exact c_X7_next hX h hv
  rw [if_neg e_X7_next] at h
  by_cases e_X5_take : n = 40
  · rw [if_pos e_X5_take] at h
    subst e_X5_take
    exact c_X5_take hX h hv
  rw [if_neg e_X5_take] at h
  cases h
theorem cl_X5_readLaw_X4_clear {ρ : Type} (σ : zH) (av : List zAV) (q : zH → zAV → Option ρ) : cc_X5_readLaw 31 σ av q = g_X4_clear σ av q := rfl
theorem cl_X5_readLaw_X7_begin {ρ : Type} (σ : zH) (av : List zAV) (q : zH → zAV → Option ρ) : cc_X5_readLaw 60 σ av q = g_X7_begin σ av q := rfl
theorem cl_X5_readLaw_X7_failed {ρ : Type} (σ : zH) (av : List zAV) (q : zH → zAV → Option ρ) : cc_X5_readLaw 62 σ av q = g_X7_failed σ av q := rfl
theorem cl_X5_readLaw_X7_next {ρ : Type} (σ : zH) (av : List zAV) (q : zH → zAV → Option ρ) : cc_X5_readLaw 63 σ av q = g_X7_next σ av q := rfl
theorem cl_X5_readLaw_X5_take {ρ : Type} (σ : zH) (av : List zAV) (q : zH → zAV → Option ρ) : cc_X5_readLaw 40 σ av q = g_X5_take σ av q := rfl
theorem hy_X5_readLaw {ρ : Type} {X : zX} (hX : zHX X) : zHY X 39 (cc_X5_readLaw (ρ := ρ)) := zHX.hY hX (cs_X5_readLaw hX) (zmok_all 39 (by decide))
def gl_X5_readLaw_46 {ρ : Type} (f : zH → Int32 → Option ρ) (σ : zH) (L st : List zAV) : Option ρ := match L, st with
  | [.inr (.inr (.inl (5, 0))), _, .inl x2], [] => f σ x2
  | _, _ => none
theorem glr_X5_readLaw_46 {ρ : Type} (f : zH → Int32 → Option ρ) (σ : zH) (x2 : Int32) (y1 : zAV) : gl_X5_readLaw_46 f σ [vR 5 0, y1, vI x2] [] = f σ x2 := rfl
theorem t_X5_readLaw_0 {G : Nat → zH → List zAV → List zAV → Option (zH × Int32)} (es : List zEnt) (σ : zH) (i1 : Nat) (y2 : zAV)  : zev cc_X5_readLaw G 0 krI (zE 0 (.aload_n 0) 1 :: zE 1 (.aload_n 1) 1 :: es) σ [vR 5 0, vR 4 i1, y2] [] = zev cc_X5_readLaw G 0 krI es σ [vR 5 0, vR 4 i1, y2] [vR 4 i1, vR 5 0] := rfl
theorem t_X5_readLaw_5 {G : Nat → zH → List zAV → List zAV → Option (zH × Int32)} (es : List zEnt) (σ : zH)  (y1 : zAV) (y2 : zAV)  : zev cc_X5_readLaw G 0 krI (zE 5 (.aload_n 0) 1 :: es) σ [vR 5 0, y1, y2] [] = zev cc_X5_readLaw G 0 krI es σ [vR 5 0, y1, y2] [vR 5 0] := rfl
theorem t_X5_readLaw_12 {G : Nat → zH → List zAV → List zAV → Option (zH × Int32)} (es : List zEnt) (σ : zH)  (y1 : zAV) (y2 : zAV) (w13 : Int32) : zev cc_X5_readLaw G 0 krI (zE 12 (.aload_n 0) 1 :: zEk 13 (.iconst 0) 1 w13 :: es) σ [vR 5 0, y1, y2] [] = zev cc_X5_readLaw G 0 krI es σ [vR 5 0, y1, y2] [vI w13, vR 5 0] := rfl
theorem t_X5_readLaw_17 {G : Nat → zH → List zAV → List zAV → Option (zH × Int32)} (es : List zEnt) (σ : zH)  (y1 : zAV) (y2 : zAV) (w18 : Int32) : zev cc_X5_readLaw G 0 krI (zE 17 (.aload_n 0) 1 :: zEk 18 (.iconst 0) 1 w18 :: es) σ [vR 5 0, y1, y2] [] = zev cc_X5_readLaw G 0 krI es σ [vR 5 0, y1, y2] [vI w18, vR 5 0] := rfl
theorem t_X5_readLaw_22 {G : Nat → zH → List zAV → List zAV → Option (zH × Int32)} (es : List zEnt) (σ : zH)  (y1 : zAV) (y2 : zAV) (w23 : Int32) : zev cc_X5_readLaw G 0 krI (zE 22 (.aload_n 0) 1 :: zEk 23 (.iconst 0) 1 w23 :: es) σ [vR 5 0, y1, y2] [] = zev cc_X5_readLaw G 0 krI es σ [vR 5 0, y1, y2] [vI w23, vR 5 0] := rfl
theorem t_X5_readLaw_27 {G : Nat → zH → List zAV → List zAV → Option (zH × Int32)} (es : List zEnt) (σ : zH)  (y1 : zAV) (y2 : zAV) (w28 : Int32) : zev cc_X5_readLaw G 0 krI (zE 27 (.aload_n 0) 1 :: zEk 28 (.iconst 0) 1 w28 :: es) σ [vR 5 0, y1, y2] [] = zev cc_X5_readLaw G 0 krI es σ [vR 5 0, y1, y2] [vI w28, vR 5 0] := rfl
theorem t_X5_readLaw_32 {G : Nat → zH → List zAV → List zAV → Option (zH × Int32)} (es : List zEnt) (σ : zH)  (y1 : zAV) (y2 : zAV) (w33 : Int32) : zev cc_X5_readLaw G 0 krI (zE 32 (.aload_n 0) 1 :: zEk 33 (.iconst 0) 1 w33 :: es) σ [vR 5 0, y1, y2] [] = zev cc_X5_readLaw G 0 krI es σ [vR 5 0, y1, y2] [vI w33, vR 5 0] := rfl
theorem t_X5_readLaw_37 {G : Nat → zH → List zAV → List zAV → Option (zH × Int32)} (es : List zEnt) (σ : zH)  (y1 : zAV) (y2 : zAV)  : zev cc_X5_readLaw G 0 krI (zE 37 (.aload_n 0) 1 :: zEf 38 (.getfield 17) 3 5 0 21 (2, 7, 0) :: es) σ [vR 5 0, y1, y2] [] = zev cc_X5_readLaw G 0 krI es σ [vR 5 0, y1, y2] [vR 7 0] := rfl
theorem t_X5_readLaw_44 {G : Nat → zH → List zAV → List zAV → Option (zH × Int32)} (es : List zEnt) (σ : zH)  (y1 : zAV) (y2 : zAV) (w44 : Int32) : zev cc_X5_readLaw G 0 krI (zEk 44 (.iconst 0) 1 w44 :: zE 45 (.istore_n 2) 1 :: es) σ [vR 5 0, y1, y2] [] = zev cc_X5_readLaw G 0 krI es σ [vR 5 0, (zkp y1), vI w44] [] := rfl
theorem t_X5_readLaw_46 {G : Nat → zH → List zAV → List zAV → Option (zH × Int32)} (es : List zEnt) (σ : zH) (x2 : Int32) (y1 : zAV) (w47 : Int32) : zev cc_X5_readLaw G 0 krI (zE 46 (.iload_n 2) 1 :: zEk 47 (.sipush 400) 3 w47 :: es) σ [vR 5 0, y1, vI x2] [] = zev cc_X5_readLaw G 0 krI es σ [vR 5 0, y1, vI x2] [vI w47, vI x2] := rfl
theorem t_X5_readLaw_53 {G : Nat → zH → List zAV → List zAV → Option (zH × Int32)} (es : List zEnt) (σ : zH) (x2 : Int32) (y1 : zAV) (w57 : Int32) : zev cc_X5_readLaw G 0 krI (zE 53 (.aload_n 0) 1 :: zEf 54 (.getfield 30) 3 5 2 23 (0, 0, 0) :: zEk 57 (.iconst 5) 1 w57 :: es) σ [vR 5 0, y1, vI x2] [] = zev cc_X5_readLaw G 0 krI es σ [vR 5 0, y1, vI x2] [vI w57, vI (σ.1 5 0 2)] := rfl
theorem t_X5_readLaw_61 {G : Nat → zH → List zAV → List zAV → Option (zH × Int32)} (es : List zEnt) (σ : zH) (x2 : Int32) (y1 : zAV)  : zev cc_X5_readLaw G 0 krI (zE 61 (.aload_n 0) 1 :: zEf 62 (.getfield 17) 3 5 0 21 (2, 7, 0) :: es) σ [vR 5 0, y1, vI x2] [] = zev cc_X5_readLaw G 0 krI es σ [vR 5 0, y1, vI x2] [vR 7 0] := rfl
theorem t_X5_readLaw_71 {G : Nat → zH → List zAV → List zAV → Option (zH × Int32)} (es : List zEnt) (σ : zH) (x2 : Int32) (y1 : zAV)  : zev cc_X5_readLaw G 0 krI (zE 71 (.aload_n 0) 1 :: zEf 72 (.getfield 17) 3 5 0 21 (2, 7, 0) :: es) σ [vR 5 0, y1, vI x2] [] = zev cc_X5_readLaw G 0 krI es σ [vR 5 0, y1, vI x2] [vR 7 0] := rfl
theorem t_X5_readLaw_78 {G : Nat → zH → List zAV → List zAV → Option (zH × Int32)} (es : List zEnt) (σ : zH) (x2 : Int32) (y1 : zAV)  : zev cc_X5_readLaw G 0 krI (zE 78 (.aload_n 0) 1 :: es) σ [vR 5 0, y1, vI x2] [] = zev cc_X5_readLaw G 0 krI es σ [vR 5 0, y1, vI x2] [vR 5 0] := rfl
theorem t_X5_readLaw_82 {G : Nat → zH → List zAV → List zAV → Option (zH × Int32)} (es : List zEnt) (σ : zH) (x2 : Int32) (y1 : zAV) (w82 : Int32) : zev cc_X5_readLaw G 0 krI (zEk 82 (.iinc 2 1) 3 w82 :: es) σ [vR 5 0, y1, vI x2] [] = zev cc_X5_readLaw G 0 krI es σ [vR 5 0, (zkp y1), vI (x2 + w82)] [] := rfl
theorem t_X5_readLaw_88 {G : Nat → zH → List zAV → List zAV → Option (zH × Int32)} (es : List zEnt) (σ : zH)  (y1 : zAV) (y2 : zAV)  : zev cc_X5_readLaw G 0 krI (zE 88 (.aload_n 0) 1 :: zEf 89 (.getfield 17) 3 5 0 21 (2, 7, 0) :: zEf 92 (.getfield 61) 3 7 5 15 (0, 0, 0) :: es) σ [vR 5 0, y1, y2] [] = zev cc_X5_readLaw G 0 krI es σ [vR 5 0, y1, y2] [vI (σ.1 7 0 5)] := rfl
noncomputable def k_X5_readLaw_46  : Nat → zH → Int32 → Option (zH × Int32)
  | 0, _, _ => none
  | n + 1, σ, x2 =>
    if (400 : Int32) < x2 then
      some (σ, (σ.1 7 0 5))
    else
      if (σ.1 5 0 2) = (5 : Int32) then
        some (σ, (σ.1 7 0 5))
      else
        (d_X7_failed σ).bind fun p1 =>
        if p1.2 = 0 then
          (d_X7_next p1.1).bind fun σ2 =>
          (d_X5_take σ2).bind fun σ3 =>
          (k_X5_readLaw_46 n) σ3 (x2 + (1 : Int32))
        else
          some (p1.1, (p1.1.1 7 0 5))
theorem e_X5_readLaw_46  (n : Nat) (σ : zH) (x2 : Int32) (y1 : zAV) : k_X5_readLaw_46 (n + 1) σ x2 = zin cc_X5_readLaw (fun t => if t = 46 then some (gl_X5_readLaw_46 (k_X5_readLaw_46 n)) else none) 0 krI b_X5_readLaw 46 σ [vR 5 0, y1, vI x2] [] := by
  rw [k_X5_readLaw_46]
  refine Eq.symm ((zin_b (es := q_X5_readLaw_46) rfl).trans ?_)
  refine (t_X5_readLaw_46 _ _ _ _ _).trans ?_
  refine x_icmp.trans (pif_gt ?_ ?_)
  · refine (zrun_b (es := q_X5_readLaw_88) rfl rfl).trans ?_
    refine (t_X5_readLaw_88 _ _ _ _).trans ?_
    exact x_iret
  · refine (t_X5_readLaw_53 _ _ _ _ _).trans ?_
    refine x_icmp.trans (pif_eq ?_ ?_)
    · refine (zrun_b (es := q_X5_readLaw_88) rfl rfl).trans ?_
      refine (t_X5_readLaw_88 _ _ _ _).trans ?_
      exact x_iret
    · refine (t_X5_readLaw_61 _ _ _ _).trans ?_
      refine (x_callV rfl rfl rfl rfl).trans ((cl_X5_readLaw_X7_failed _ _ _).trans ((gr_X7_failed _ _).trans (pbd fun _ => ?_)))
      refine x_if.trans (pif_ne ?_ ?_)
      · refine (zrun_b (es := q_X5_readLaw_88) rfl rfl).trans ?_
        refine (t_X5_readLaw_88 _ _ _ _).trans ?_
        exact x_iret
      · refine (t_X5_readLaw_71 _ _ _ _).trans ?_
        refine (x_callV rfl rfl rfl rfl).trans ((cl_X5_readLaw_X7_next _ _ _).trans ((gr_X7_next _ _).trans (pbd fun _ => ?_)))
        refine (t_X5_readLaw_78 _ _ _ _).trans ?_
        refine (x_callV rfl rfl rfl rfl).trans ((cl_X5_readLaw_X5_take _ _ _).trans ((gr_X5_take _ _).trans (pbd fun _ => ?_)))
        refine (t_X5_readLaw_82 _ _ _ _ _).trans ?_
        refine x_goto.trans ?_
        exact (zrun_c rfl).trans (glr_X5_readLaw_46 _ _ _ _)
theorem s_X5_readLaw_46 {X : zX} (hX : zHX X)   : ∀ n σ L st r, gl_X5_readLaw_46 (k_X5_readLaw_46 n) σ L st = some r → zGW X 39 krI 46 σ L st r := by
  intro n
  induction n with
  | zero =>
    intro σ L st r h
    unfold gl_X5_readLaw_46 at h
    split at h <;> cases h
  | succ n ih =>
    intro σ L st r h
    unfold gl_X5_readLaw_46 at h
    split at h
    · exact zin_ok (hy_X5_readLaw hX) bk_X5_readLaw (fun t f hf => by
      by_cases e46 : t = 46
      · rw [if_pos e46] at hf; subst e46; cases hf; exact ih
      rw [if_neg e46] at hf
      cases hf) ((e_X5_readLaw_46 _ _ _ _).symm.trans h)
    · cases h
noncomputable def d_X5_readLaw (σ : zH) (ia1 : Nat) : Option (zH × Int32) :=
  zlet (uI σ 5 0 1 (Int32.ofNat ia1)) fun σ1 =>
  ix (σ1.1 5 0 1) 6 fun j2 =>
  (d_X4_clear σ1 j2).bind fun σ3 =>
  zlet (uI σ3 5 0 2 (0 : Int32)) fun σ4 =>
  zlet (uI σ4 5 0 4 (0 : Int32)) fun σ5 =>
  zlet (uI σ5 5 0 6 (0 : Int32)) fun σ6 =>
  zlet (uI σ6 5 0 7 (0 : Int32)) fun σ7 =>
  zlet (uI σ7 5 0 8 (0 : Int32)) fun σ8 =>
  (d_X7_begin σ8).bind fun σ9 =>
  (k_X5_readLaw_46 zN) σ9 (0 : Int32)
theorem e_X5_readLaw (σ : zH) (ia1 : Nat) : d_X5_readLaw σ ia1 = zin cc_X5_readLaw (fun t => if t = 46 then some (gl_X5_readLaw_46 (k_X5_readLaw_46 zN)) else none) 0 krI b_X5_readLaw 0 σ [vR 5 0, vR 4 ia1, vU] [] := by
  unfold d_X5_readLaw
  refine Eq.symm ((zin_b (es := q_X5_readLaw_0) rfl).trans ?_)
  refine (t_X5_readLaw_0 _ _ _ _).trans ?_
  refine x_pf3.trans (plt fun _ => ?_)
  refine (t_X5_readLaw_5 _ _ _ _).trans ?_
  refine x_gf3.trans (pix fun _ => ?_)
  refine (x_callV rfl rfl rfl rfl).trans ((cl_X5_readLaw_X4_clear _ _ _).trans ((gr_X4_clear _ _ _).trans (pbd fun _ => ?_)))
  refine (t_X5_readLaw_12 _ _ _ _ _).trans ?_
  refine x_pf0.trans (plt fun _ => ?_)
  refine (t_X5_readLaw_17 _ _ _ _ _).trans ?_
  refine x_pf0.trans (plt fun _ => ?_)
  refine (t_X5_readLaw_22 _ _ _ _ _).trans ?_
  refine x_pf0.trans (plt fun _ => ?_)
  refine (t_X5_readLaw_27 _ _ _ _ _).trans ?_
  refine x_pf0.trans (plt fun _ => ?_)
  refine (t_X5_readLaw_32 _ _ _ _ _).trans ?_
  refine x_pf0.trans (plt fun _ => ?_)
  refine (t_X5_readLaw_37 _ _ _ _).trans ?_
  refine (x_callV rfl rfl rfl rfl).trans ((cl_X5_readLaw_X7_begin _ _ _).trans ((gr_X7_begin _ _).trans (pbd fun _ => ?_)))
  refine (t_X5_readLaw_44 _ _ _ _ _).trans ?_
  refine x_cut.trans ?_
  exact (zrun_c rfl).trans (glr_X5_readLaw_46 _ _ _ _)
noncomputable def g_X5_readLaw {ρ : Type} (σ : zH) (av : List zAV) (q : zH → zAV → Option ρ) : Option ρ := match av with
  | [.inr (.inr (.inl (5, 0))), .inr (.inr (.inl (4, ia1)))] => (d_X5_readLaw σ ia1).bind fun p => q p.1 (vI p.2)
  | _ => none
theorem gr_X5_readLaw {ρ : Type} (σ : zH) (ia1 : Nat) (q : zH → zAV → Option ρ) : g_X5_readLaw σ [vR 5 0, vR 4 ia1] q = (d_X5_readLaw σ ia1).bind fun p => q p.1 (vI p.2) := rfl
theorem c_X5_readLaw {ρ : Type} {X : zX} (hX : zHX X) {σ : zH} {av : List zAV} {q : zH → zAV → Option ρ} {r : ρ} (h : g_X5_readLaw σ av q = some r) (hv : ∀ a ∈ av, zval X a) : zcon X 39 σ av q r := by
  unfold g_X5_readLaw at h
  split at h
  · exact zcon_I (n := 39) (ml := 3) (rc := 0) (st := 0) (kd := 5) (np := 1) (by decide +kernel) (by decide) ⟨_, _, rfl, rfl⟩ (Nat.le_of_ble_eq_true rfl) hv h (fun y h1 => (zin_ok (hy_X5_readLaw hX) bk_X5_readLaw (fun t f hf => by
      by_cases e46 : t = 46
      · rw [if_pos e46] at hf; subst e46; cases hf; exact ((fun σ L st r h => s_X5_readLaw_46 hX  zN σ L st r h))
      rw [if_neg e46] at hf
      cases hf) ((e_X5_readLaw _ _).symm.trans h1)))
  · cases h
/-! SleepWaves$Log.clear()V -/
def q_X6_clear_5 : List zEnt := zE 5 .return_ 1 :: []
def q_X6_clear_2 : List zEnt := zEf 2 (.putfield 19) 3 6 2 125 (0, 0, 0) :: q_X6_clear_5
def q_X6_clear_0 : List zEnt := zE 0 (.aload_n 0) 1 :: zEk 1 (.iconst 0) 1 0 :: q_X6_clear_2
def b_X6_clear : List (Nat × List zEnt) := [(0, q_X6_clear_0)]
theorem bk_X6_clear : zchB 52 b_X6_clear = true := by decide +kernel
theorem hy_X6_clear {ρ : Type} {X : zX} (hX : zHX X) : zHY X 52 (zc0 (ρ := ρ)) := zHX.hY hX (zc0_ok X) (zmok_all 52 (by decide))
theorem t_X6_clear_0 {G : Nat → zH → List zAV → List zAV → Option zH} (es : List zEnt) (σ : zH) (i0 : Nat)  (w1 : Int32) : zev zc0 G 9 krV (zE 0 (.aload_n 0) 1 :: zEk 1 (.iconst 0) 1 w1 :: es) σ [vR 6 i0] [] = zev zc0 G 9 krV es σ [vR 6 i0] [vI w1, vR 6 i0] := rfl
noncomputable def d_X6_clear (σ : zH) (ia0 : Nat) : Option zH :=
  zlet (uI σ 6 ia0 2 (0 : Int32)) fun σ1 =>
  some σ1
theorem e_X6_clear (σ : zH) (ia0 : Nat) : d_X6_clear σ ia0 = zin zc0 (fun t => none) 9 krV b_X6_clear 0 σ [vR 6 ia0] [] := by
  unfold d_X6_clear
  refine Eq.symm ((zin_b (es := q_X6_clear_0) rfl).trans ?_)
  refine (t_X6_clear_0 _ _ _ _).trans ?_
  refine x_pf0.trans (plt fun _ => ?_)
  exact x_vret
noncomputable def g_X6_clear {ρ : Type} (σ : zH) (av : List zAV) (q : zH → zAV → Option ρ) : Option ρ := match av with
  | [.inr (.inr (.inl (6, ia0)))] => (d_X6_clear σ ia0).bind fun σ => q σ vU
  | _ => none
theorem gr_X6_clear {ρ : Type} (σ : zH) (ia0 : Nat) (q : zH → zAV → Option ρ) : g_X6_clear σ [vR 6 ia0] q = (d_X6_clear σ ia0).bind fun σ => q σ vU := rfl
theorem c_X6_clear {ρ : Type} {X : zX} (hX : zHX X) {σ : zH} {av : List zAV} {q : zH → zAV → Option ρ} {r : ρ} (h : g_X6_clear σ av q = some r) (hv : ∀ a ∈ av, zval X a) : zcon X 52 σ av q r := by
  unfold g_X6_clear at h
  split at h
  · exact zcon_V (n := 52) (ml := 1) (rc := 9) (st := 0) (kd := 6) (np := 0) (by decide +kernel) rfl ⟨_, _, rfl, rfl⟩ (Nat.le_of_ble_eq_true rfl) hv h (fun y h1 => (zin_ok (hy_X6_clear hX) bk_X6_clear (fun t f hf => by
      cases hf) ((e_X6_clear _ _).symm.trans h1)))
  · cases h
/-! SleepWaves$Log.copyFrom(LSleepWaves$Log;)V -/
def q_X6_copyFrom_32 : List zEnt := zE 32 .return_ 1 :: []
def q_X6_copyFrom_29 : List zEnt := zEf 29 (.putfield 19) 3 6 2 125 (0, 0, 0) :: q_X6_copyFrom_32
def q_X6_copyFrom_24 : List zEnt := zE 24 (.aload_n 0) 1 :: zE 25 (.aload_n 1) 1 :: zEf 26 (.getfield 19) 3 6 2 125 (0, 0, 0) :: q_X6_copyFrom_29
def q_X6_copyFrom_21 : List zEnt := zEf 21 (.putfield 15) 3 6 1 124 (0, 0, 0) :: q_X6_copyFrom_24
def q_X6_copyFrom_16 : List zEnt := zE 16 (.aload_n 0) 1 :: zE 17 (.aload_n 1) 1 :: zEf 18 (.getfield 15) 3 6 1 124 (0, 0, 0) :: q_X6_copyFrom_21
def q_X6_copyFrom_13 : List zEnt := zEc 13 (.invokestatic 22) 3 9004 0 930 0 :: q_X6_copyFrom_16
def q_X6_copyFrom_0 : List zEnt := zE 0 (.aload_n 1) 1 :: zEf 1 (.getfield 9) 3 6 0 123 (1, 30, 0) :: zEk 4 (.iconst 0) 1 0 :: zE 5 (.aload_n 0) 1 :: zEf 6 (.getfield 9) 3 6 0 123 (1, 30, 0) :: zEk 9 (.iconst 0) 1 0 :: zEk 10 (.sipush 192) 3 192 :: q_X6_copyFrom_13
def b_X6_copyFrom : List (Nat × List zEnt) := [(0, q_X6_copyFrom_0)]
theorem bk_X6_copyFrom : zchB 53 b_X6_copyFrom = true := by decide +kernel
theorem hy_X6_copyFrom {ρ : Type} {X : zX} (hX : zHX X) : zHY X 53 (zc0 (ρ := ρ)) := zHX.hY hX (zc0_ok X) (zmok_all 53 (by decide))
theorem t_X6_copyFrom_0 {G : Nat → zH → List zAV → List zAV → Option zH} (es : List zEnt) (σ : zH) (i0 : Nat) (i1 : Nat)  (w4 : Int32) (w9 : Int32) (w10 : Int32) : zev zc0 G 9 krV (zE 0 (.aload_n 1) 1 :: zEf 1 (.getfield 9) 3 6 0 123 (1, 30, 0) :: zEk 4 (.iconst 0) 1 w4 :: zE 5 (.aload_n 0) 1 :: zEf 6 (.getfield 9) 3 6 0 123 (1, 30, 0) :: zEk 9 (.iconst 0) 1 w9 :: zEk 10 (.sipush 192) 3 w10 :: es) σ [vR 6 i0, vR 6 i1] [] = zev zc0 G 9 krV es σ [vR 6 i0, vR 6 i1] [vI w10, vI w9, vR 30 (i0 + 0), vI w4, vR 30 (i1 + 0)] := rfl
theorem t_X6_copyFrom_16 {G : Nat → zH → List zAV → List zAV → Option zH} (es : List zEnt) (σ : zH) (i0 : Nat) (i1 : Nat)   : zev zc0 G 9 krV (zE 16 (.aload_n 0) 1 :: zE 17 (.aload_n 1) 1 :: zEf 18 (.getfield 15) 3 6 1 124 (0, 0, 0) :: es) σ [vR 6 i0, vR 6 i1] [] = zev zc0 G 9 krV es σ [vR 6 i0, vR 6 i1] [vI (σ.1 6 i1 1), vR 6 i0] := rfl
theorem t_X6_copyFrom_24 {G : Nat → zH → List zAV → List zAV → Option zH} (es : List zEnt) (σ : zH) (i0 : Nat) (i1 : Nat)   : zev zc0 G 9 krV (zE 24 (.aload_n 0) 1 :: zE 25 (.aload_n 1) 1 :: zEf 26 (.getfield 19) 3 6 2 125 (0, 0, 0) :: es) σ [vR 6 i0, vR 6 i1] [] = zev zc0 G 9 krV es σ [vR 6 i0, vR 6 i1] [vI (σ.1 6 i1 2), vR 6 i0] := rfl
noncomputable def d_X6_copyFrom (σ : zH) (ia0 : Nat) (ia1 : Nat) : Option zH :=
  zlet (cpI σ 30 (ia1 + 0) 30 (ia0 + 0) 0 0 192) fun σ1 =>
  zlet (uI σ1 6 ia0 1 (σ1.1 6 ia1 1)) fun σ2 =>
  zlet (uI σ2 6 ia0 2 (σ2.1 6 ia1 2)) fun σ3 =>
  some σ3
theorem e_X6_copyFrom (σ : zH) (ia0 : Nat) (ia1 : Nat) : d_X6_copyFrom σ ia0 ia1 = zin zc0 (fun t => none) 9 krV b_X6_copyFrom 0 σ [vR 6 ia0, vR 6 ia1] [] := by
  unfold d_X6_copyFrom
  refine Eq.symm ((zin_b (es := q_X6_copyFrom_0) rfl).trans ?_)
  refine (t_X6_copyFrom_0 _ _ _ _ _ _ _).trans ?_
  refine (x_copy (a := 0) (b := 0) (c := 192) rfl rfl rfl (by decide +kernel)).trans (plt fun _ => ?_)
  refine (t_X6_copyFrom_16 _ _ _ _).trans ?_
  refine x_pf0.trans (plt fun _ => ?_)
  refine (t_X6_copyFrom_24 _ _ _ _).trans ?_
  refine x_pf0.trans (plt fun _ => ?_)
  exact x_vret
noncomputable def g_X6_copyFrom {ρ : Type} (σ : zH) (av : List zAV) (q : zH → zAV → Option ρ) : Option ρ := match av with
  | [.inr (.inr (.inl (6, ia0))), .inr (.inr (.inl (6, ia1)))] => (d_X6_copyFrom σ ia0 ia1).bind fun σ => q σ vU
  | _ => none
theorem gr_X6_copyFrom {ρ : Type} (σ : zH) (ia0 : Nat) (ia1 : Nat) (q : zH → zAV → Option ρ) : g_X6_copyFrom σ [vR 6 ia0, vR 6 ia1] q = (d_X6_copyFrom σ ia0 ia1).bind fun σ => q σ vU := rfl
theorem c_X6_copyFrom {ρ : Type} {X : zX} (hX : zHX X) {σ : zH} {av : List zAV} {q : zH → zAV → Option ρ} {r : ρ} (h : g_X6_copyFrom σ av q = some r) (hv : ∀ a ∈ av, zval X a) : zcon X 53 σ av q r := by
  unfold g_X6_copyFrom at h
  split at h
  · exact zcon_V (n := 53) (ml := 2) (rc := 9) (st := 0) (kd := 6) (np := 1) (by decide +kernel) rfl ⟨_, _, rfl, rfl⟩ (Nat.le_of_ble_eq_true rfl) hv h (fun y h1 => (zin_ok (hy_X6_copyFrom hX) bk_X6_copyFrom (fun t f hf => by
      cases hf) ((e_X6_copyFrom _ _ _).symm.trans h1)))
  · cases h
/-! SleepWaves$Log.add(I)V -/
def q_X6_add_19 : List zEnt := zEa 19 (.goto 4) 3 23 :: []
def q_X6_add_13 : List zEnt := zE 13 (.aload_n 0) 1 :: zEf 14 (.getfield 15) 3 6 1 124 (0, 0, 0) :: zEk 17 (.iconst 1) 1 1 :: zE 18 .iadd 1 :: q_X6_add_19
def q_X6_add_10 : List zEnt := zEa 10 (.if_icmp .ge 12) 3 22 :: q_X6_add_13
def q_X6_add_0 : List zEnt := zE 0 (.aload_n 0) 1 :: zE 1 (.aload_n 0) 1 :: zEf 2 (.getfield 15) 3 6 1 124 (0, 0, 0) :: zEk 5 (.iconst 1) 1 1 :: zE 6 .iadd 1 :: zEk 7 (.sipush 192) 3 192 :: q_X6_add_10
def q_X6_add_22 : List zEnt := zEk 22 (.iconst 0) 1 0 :: [zE 23 .nop 0]
def q_X6_add_52 : List zEnt := zE 52 .return_ 1 :: []
def q_X6_add_49 : List zEnt := zEf 49 (.putfield 19) 3 6 2 125 (0, 0, 0) :: q_X6_add_52
def q_X6_add_36 : List zEnt := zE 36 (.aload_n 0) 1 :: zEk 37 (.sipush 192) 3 192 :: zE 40 (.aload_n 0) 1 :: zEf 41 (.getfield 19) 3 6 2 125 (0, 0, 0) :: zEk 44 (.iconst 1) 1 1 :: zE 45 .iadd 1 :: zEc 46 (.invokestatic 28) 3 9003 0 884 0 :: q_X6_add_49
def q_X6_add_35 : List zEnt := zE 35 .iastore 1 :: q_X6_add_36
def q_X6_add_26 : List zEnt := zE 26 (.aload_n 0) 1 :: zEf 27 (.getfield 9) 3 6 0 123 (1, 30, 0) :: zE 30 (.aload_n 0) 1 :: zEf 31 (.getfield 15) 3 6 1 124 (0, 0, 0) :: zE 34 (.iload_n 1) 1 :: q_X6_add_35
def q_X6_add_23 : List zEnt := zEf 23 (.putfield 15) 3 6 1 124 (0, 0, 0) :: q_X6_add_26
def b_X6_add : List (Nat × List zEnt) := [(0, q_X6_add_0), (22, q_X6_add_22), (23, q_X6_add_23)]
theorem bk_X6_add : zchB 54 b_X6_add = true := by decide +kernel
theorem hy_X6_add {ρ : Type} {X : zX} (hX : zHX X) : zHY X 54 (zc0 (ρ := ρ)) := zHX.hY hX (zc0_ok X) (zmok_all 54 (by decide))
def gl_X6_add_23 {ρ : Type} (f : zH → Nat → Int32 → Nat → Int32 → Option ρ) (σ : zH) (L st : List zAV) : Option ρ := match L, st with
  | [.inr (.inr (.inl (6, i0))), .inl x1], [.inl xs1, .inr (.inr (.inl (6, is0)))] => f σ i0 x1 is0 xs1
  | _, _ => none
theorem glr_X6_add_23 {ρ : Type} (f : zH → Nat → Int32 → Nat → Int32 → Option ρ) (σ : zH) (i0 : Nat) (x1 : Int32) (is0 : Nat) (xs1 : Int32)  : gl_X6_add_23 f σ [vR 6 i0, vI x1] [vI xs1, vR 6 is0] = f σ i0 x1 is0 xs1 := rfl
theorem t_X6_add_0 {G : Nat → zH → List zAV → List zAV → Option zH} (es : List zEnt) (σ : zH) (i0 : Nat) (x1 : Int32)  (w5 : Int32) (w7 : Int32) : zev zc0 G 9 krV (zE 0 (.aload_n 0) 1 :: zE 1 (.aload_n 0) 1 :: zEf 2 (.getfield 15) 3 6 1 124 (0, 0, 0) :: zEk 5 (.iconst 1) 1 w5 :: zE 6 .iadd 1 :: zEk 7 (.sipush 192) 3 w7 :: es) σ [vR 6 i0, vI x1] [] = zev zc0 G 9 krV es σ [vR 6 i0, vI x1] [vI w7, vI ((σ.1 6 i0 1) + w5), vR 6 i0] := rfl
theorem t_X6_add_13 {G : Nat → zH → List zAV → List zAV → Option zH} (es : List zEnt) (σ : zH) (i0 : Nat) (x1 : Int32) (is0 : Nat)  (w17 : Int32) : zev zc0 G 9 krV (zE 13 (.aload_n 0) 1 :: zEf 14 (.getfield 15) 3 6 1 124 (0, 0, 0) :: zEk 17 (.iconst 1) 1 w17 :: zE 18 .iadd 1 :: es) σ [vR 6 i0, vI x1] [vR 6 is0] = zev zc0 G 9 krV es σ [vR 6 i0, vI x1] [vI ((σ.1 6 i0 1) + w17), vR 6 is0] := rfl
theorem t_X6_add_22 {G : Nat → zH → List zAV → List zAV → Option zH} (es : List zEnt) (σ : zH) (i0 : Nat) (x1 : Int32) (is0 : Nat)  (w22 : Int32) : zev zc0 G 9 krV (zEk 22 (.iconst 0) 1 w22 :: es) σ [vR 6 i0, vI x1] [vR 6 is0] = zev zc0 G 9 krV es σ [vR 6 i0, vI x1] [vI w22, vR 6 is0] := rfl
theorem t_X6_add_26 {G : Nat → zH → List zAV → List zAV → Option zH} (es : List zEnt) (σ : zH) (i0 : Nat) (x1 : Int32)   : zev zc0 G 9 krV (zE 26 (.aload_n 0) 1 :: zEf 27 (.getfield 9) 3 6 0 123 (1, 30, 0) :: zE 30 (.aload_n 0) 1 :: zEf 31 (.getfield 15) 3 6 1 124 (0, 0, 0) :: zE 34 (.iload_n 1) 1 :: es) σ [vR 6 i0, vI x1] [] = zev zc0 G 9 krV es σ [vR 6 i0, vI x1] [vI x1, vI (σ.1 6 i0 1), vR 30 (i0 + 0)] := rfl
theorem t_X6_add_36 {G : Nat → zH → List zAV → List zAV → Option zH} (es : List zEnt) (σ : zH) (i0 : Nat) (y1 : zAV) (w37 : Int32) (w44 : Int32) : zev zc0 G 9 krV (zE 36 (.aload_n 0) 1 :: zEk 37 (.sipush 192) 3 w37 :: zE 40 (.aload_n 0) 1 :: zEf 41 (.getfield 19) 3 6 2 125 (0, 0, 0) :: zEk 44 (.iconst 1) 1 w44 :: zE 45 .iadd 1 :: zEc 46 (.invokestatic 28) 3 9003 0 884 0 :: es) σ [vR 6 i0, y1] [] = zev zc0 G 9 krV es σ [vR 6 i0, y1] [vI (zmn w37 ((σ.1 6 i0 2) + w44)), vR 6 i0] := rfl
noncomputable def j_X6_add_23  (σ : zH) (i0 : Nat) (x1 : Int32) (is0 : Nat) (xs1 : Int32) : Option zH :=
  zlet (uI σ 6 is0 1 xs1) fun σ1 =>
  ix (σ1.1 6 i0 1) 192 fun j4 =>
  zlet (uI σ1 30 (i0 + 0) j4 x1) fun σ2 =>
  zlet (uI σ2 6 i0 2 (zmn (192 : Int32) ((σ2.1 6 i0 2) + (1 : Int32)))) fun σ3 =>
  some σ3
theorem e_X6_add_23  (σ : zH) (i0 : Nat) (x1 : Int32) (is0 : Nat) (xs1 : Int32)  : j_X6_add_23 σ i0 x1 is0 xs1 = zin zc0 (fun t => none) 9 krV b_X6_add 23 σ [vR 6 i0, vI x1] [vI xs1, vR 6 is0] := by
  unfold j_X6_add_23
  refine Eq.symm ((zin_b (es := q_X6_add_23) rfl).trans ?_)
  refine x_pf0.trans (plt fun _ => ?_)
  refine (t_X6_add_26 _ _ _ _).trans ?_
  refine (x_iast (N := 192) rfl rfl).trans (pix fun _ => plt fun _ => ?_)
  refine (t_X6_add_36 _ _ _ _ _ _).trans ?_
  refine x_pf0.trans (plt fun _ => ?_)
  exact x_vret
theorem s_X6_add_23 {X : zX} (hX : zHX X)   : ∀ σ L st r, gl_X6_add_23 j_X6_add_23 σ L st = some r → zGW X 54 krV 23 σ L st r := by
  intro σ L st r h
  unfold gl_X6_add_23 at h
  split at h
  · exact zin_ok (hy_X6_add hX) bk_X6_add (fun t f hf => by
    cases hf) ((e_X6_add_23 _ _ _ _ _).symm.trans h)
  · cases h
noncomputable def d_X6_add (σ : zH) (ia0 : Nat) (xa1 : Int32) : Option zH :=
  if ((σ.1 6 ia0 1) + (1 : Int32)) < (192 : Int32) then
    j_X6_add_23 σ ia0 xa1 ia0 ((σ.1 6 ia0 1) + (1 : Int32))
  else
    j_X6_add_23 σ ia0 xa1 ia0 (0 : Int32)
theorem e_X6_add (σ : zH) (ia0 : Nat) (xa1 : Int32) : d_X6_add σ ia0 xa1 = zin zc0 (fun t => if t = 23 then some (gl_X6_add_23 j_X6_add_23) else none) 9 krV b_X6_add 0 σ [vR 6 ia0, vI xa1] [] := by
  unfold d_X6_add
  refine Eq.symm ((zin_b (es := q_X6_add_0) rfl).trans ?_)
  refine (t_X6_add_0 _ _ _ _ _ _).trans ?_
  refine x_icmp.trans (pif_ge ?_ ?_)
  · refine (zrun_b (es := q_X6_add_22) rfl rfl).trans ?_
    refine (t_X6_add_22 _ _ _ _ _ _).trans ?_
    refine x_cut.trans ?_
    exact (zrun_c rfl).trans (glr_X6_add_23 _ _ _ _ _ _)
  · refine (t_X6_add_13 _ _ _ _ _ _).trans ?_
    refine x_goto.trans ?_
    exact (zrun_c rfl).trans (glr_X6_add_23 _ _ _ _ _ _)
noncomputable def g_X6_add {ρ : Type} (σ : zH) (av : List zAV) (q : zH → zAV → Option ρ) : Option ρ := match av with
  | [.inr (.inr (.inl (6, ia0))), .inl xa1] => (d_X6_add σ ia0 xa1).bind fun σ => q σ vU
  | _ => none
theorem gr_X6_add {ρ : Type} (σ : zH) (ia0 : Nat) (xa1 : Int32) (q : zH → zAV → Option ρ) : g_X6_add σ [vR 6 ia0, vI xa1] q = (d_X6_add σ ia0 xa1).bind fun σ => q σ vU := rfl
theorem c_X6_add {ρ : Type} {X : zX} (hX : zHX X) {σ : zH} {av : List zAV} {q : zH → zAV → Option ρ} {r : ρ} (h : g_X6_add σ av q = some r) (hv : ∀ a ∈ av, zval X a) : zcon X 54 σ av q r := by
  unfold g_X6_add at h
  split at h
  · exact zcon_V (n := 54) (ml := 2) (rc := 9) (st := 0) (kd := 6) (np := 1) (by decide +kernel) rfl ⟨_, _, rfl, rfl⟩ (Nat.le_of_ble_eq_true rfl) hv h (fun y h1 => (zin_ok (hy_X6_add hX) bk_X6_add (fun t f hf => by
      by_cases e23 : t = 23
      · rw [if_pos e23] at hf; subst e23; cases hf; exact (s_X6_add_23 hX)
      rw [if_neg e23] at hf
      cases hf) ((e_X6_add _ _ _).symm.trans h1)))
  · cases h
/-! SleepWaves$Log.upAgo(I)I -/
def q_X6_upAgo_14 : List zEnt := zE 14 .ireturn 1 :: []
def q_X6_upAgo_13 : List zEnt := zEk 13 (.iconst (-1)) 1 (-1) :: q_X6_upAgo_14
def q_X6_upAgo_10 : List zEnt := zEa 10 (.if_icmp .le 5) 3 15 :: q_X6_upAgo_13
def q_X6_upAgo_5 : List zEnt := zE 5 (.iload_n 1) 1 :: zE 6 (.aload_n 0) 1 :: zEf 7 (.getfield 19) 3 6 2 125 (0, 0, 0) :: q_X6_upAgo_10
def q_X6_upAgo_2 : List zEnt := zEa 2 (.if_icmp .lt 11) 3 13 :: q_X6_upAgo_5
def q_X6_upAgo_0 : List zEnt := zE 0 (.iload_n 1) 1 :: zEk 1 (.iconst 1) 1 1 :: q_X6_upAgo_2
def q_X6_upAgo_37 : List zEnt := zEa 37 (.goto 4) 3 41 :: []
def q_X6_upAgo_32 : List zEnt := zE 32 (.iload_n 2) 1 :: zEk 33 (.sipush 192) 3 192 :: zE 36 .iadd 1 :: q_X6_upAgo_37
def q_X6_upAgo_29 : List zEnt := zEa 29 (.ifCond .ge 11) 3 40 :: q_X6_upAgo_32
def q_X6_upAgo_15 : List zEnt := zE 15 (.aload_n 0) 1 :: zEf 16 (.getfield 15) 3 6 1 124 (0, 0, 0) :: zEk 19 (.iconst 1) 1 1 :: zE 20 .iadd 1 :: zE 21 (.iload_n 1) 1 :: zE 22 .isub 1 :: zE 23 (.istore_n 2) 1 :: zE 24 (.aload_n 0) 1 :: zEf 25 (.getfield 9) 3 6 0 123 (1, 30, 0) :: zE 28 (.iload_n 2) 1 :: q_X6_upAgo_29
def q_X6_upAgo_42 : List zEnt := zE 42 .ireturn 1 :: []
def q_X6_upAgo_41 : List zEnt := zE 41 .iaload 1 :: q_X6_upAgo_42
def q_X6_upAgo_40 : List zEnt := zE 40 (.iload_n 2) 1 :: q_X6_upAgo_41
def b_X6_upAgo : List (Nat × List zEnt) := [(0, q_X6_upAgo_0), (13, q_X6_upAgo_13), (15, q_X6_upAgo_15), (40, q_X6_upAgo_40), (41, q_X6_upAgo_41)]
theorem bk_X6_upAgo : zchB 55 b_X6_upAgo = true := by decide +kernel
theorem hy_X6_upAgo {ρ : Type} {X : zX} (hX : zHX X) : zHY X 55 (zc0 (ρ := ρ)) := zHX.hY hX (zc0_ok X) (zmok_all 55 (by decide))
theorem t_X6_upAgo_0 {G : Nat → zH → List zAV → List zAV → Option (zH × Int32)} (es : List zEnt) (σ : zH) (i0 : Nat) (x1 : Int32) (y2 : zAV) (w1 : Int32) : zev zc0 G 0 krI (zE 0 (.iload_n 1) 1 :: zEk 1 (.iconst 1) 1 w1 :: es) σ [vR 6 i0, vI x1, y2] [] = zev zc0 G 0 krI es σ [vR 6 i0, vI x1, y2] [vI w1, vI x1] := rfl
theorem t_X6_upAgo_5 {G : Nat → zH → List zAV → List zAV → Option (zH × Int32)} (es : List zEnt) (σ : zH) (i0 : Nat) (x1 : Int32) (y2 : zAV)  : zev zc0 G 0 krI (zE 5 (.iload_n 1) 1 :: zE 6 (.aload_n 0) 1 :: zEf 7 (.getfield 19) 3 6 2 125 (0, 0, 0) :: es) σ [vR 6 i0, vI x1, y2] [] = zev zc0 G 0 krI es σ [vR 6 i0, vI x1, y2] [vI (σ.1 6 i0 2), vI x1] := rfl
theorem t_X6_upAgo_13 {G : Nat → zH → List zAV → List zAV → Option (zH × Int32)} (es : List zEnt) (σ : zH)  (y0 : zAV) (y1 : zAV) (y2 : zAV) (w13 : Int32) : zev zc0 G 0 krI (zEk 13 (.iconst (-1)) 1 w13 :: es) σ [y0, y1, y2] [] = zev zc0 G 0 krI es σ [y0, y1, y2] [vI w13] := rfl
theorem t_X6_upAgo_15 {G : Nat → zH → List zAV → List zAV → Option (zH × Int32)} (es : List zEnt) (σ : zH) (i0 : Nat) (x1 : Int32) (y2 : zAV) (w19 : Int32) : zev zc0 G 0 krI (zE 15 (.aload_n 0) 1 :: zEf 16 (.getfield 15) 3 6 1 124 (0, 0, 0) :: zEk 19 (.iconst 1) 1 w19 :: zE 20 .iadd 1 :: zE 21 (.iload_n 1) 1 :: zE 22 .isub 1 :: zE 23 (.istore_n 2) 1 :: zE 24 (.aload_n 0) 1 :: zEf 25 (.getfield 9) 3 6 0 123 (1, 30, 0) :: zE 28 (.iload_n 2) 1 :: es) σ [vR 6 i0, vI x1, y2] [] = zev zc0 G 0 krI es σ [vR 6 i0, vI x1, vI (((σ.1 6 i0 1) + w19) - x1)] [vI (((σ.1 6 i0 1) + w19) - x1), vR 30 (i0 + 0)] := rfl
theorem t_X6_upAgo_32 {G : Nat → zH → List zAV → List zAV → Option (zH × Int32)} (es : List zEnt) (σ : zH) (x2 : Int32) (is0 : Nat) (y0 : zAV) (y1 : zAV) (w33 : Int32) : zev zc0 G 0 krI (zE 32 (.iload_n 2) 1 :: zEk 33 (.sipush 192) 3 w33 :: zE 36 .iadd 1 :: es) σ [y0, y1, vI x2] [vR 30 is0] = zev zc0 G 0 krI es σ [y0, y1, vI x2] [vI (x2 + w33), vR 30 is0] := rfl
theorem t_X6_upAgo_40 {G : Nat → zH → List zAV → List zAV → Option (zH × Int32)} (es : List zEnt) (σ : zH) (x2 : Int32) (is0 : Nat) (y0 : zAV) (y1 : zAV)  : zev zc0 G 0 krI (zE 40 (.iload_n 2) 1 :: es) σ [y0, y1, vI x2] [vR 30 is0] = zev zc0 G 0 krI es σ [y0, y1, vI x2] [vI x2, vR 30 is0] := rfl
noncomputable def d_X6_upAgo (σ : zH) (ia0 : Nat) (xa1 : Int32) : Option (zH × Int32) :=
  if xa1 < (1 : Int32) then
    some (σ, (-1 : Int32))
  else
    if (σ.1 6 ia0 2) < xa1 then
      some (σ, (-1 : Int32))
    else
      if (((σ.1 6 ia0 1) + (1 : Int32)) - xa1) < 0 then
        ix ((((σ.1 6 ia0 1) + (1 : Int32)) - xa1) + (192 : Int32)) 192 fun j2 =>
        some (σ, (σ.1 30 (ia0 + 0) j2))
      else
        ix (((σ.1 6 ia0 1) + (1 : Int32)) - xa1) 192 fun j1 =>
        some (σ, (σ.1 30 (ia0 + 0) j1))
theorem e_X6_upAgo (σ : zH) (ia0 : Nat) (xa1 : Int32) : d_X6_upAgo σ ia0 xa1 = zin zc0 (fun t => none) 0 krI b_X6_upAgo 0 σ [vR 6 ia0, vI xa1, vU] [] := by
  unfold d_X6_upAgo
  refine Eq.symm ((zin_b (es := q_X6_upAgo_0) rfl).trans ?_)
  refine (t_X6_upAgo_0 _ _ _ _ _ _).trans ?_
  refine x_icmp.trans (pif_lt ?_ ?_)
  · refine (zrun_b (es := q_X6_upAgo_13) rfl rfl).trans ?_
    refine (t_X6_upAgo_13 _ _ _ _ _ _).trans ?_
    exact x_iret
  · refine (t_X6_upAgo_5 _ _ _ _ _).trans ?_
    refine x_icmp.trans (pif_le ?_ ?_)
    · refine (zrun_b (es := q_X6_upAgo_15) rfl rfl).trans ?_
      refine (t_X6_upAgo_15 _ _ _ _ _ _).trans ?_
      refine x_if.trans (pif_ge ?_ ?_)
      · refine (zrun_b (es := q_X6_upAgo_40) rfl rfl).trans ?_
        refine (t_X6_upAgo_40 _ _ _ _ _ _).trans ?_
        refine (x_iald (N := 192) rfl rfl).trans (pix fun _ => ?_)
        exact x_iret
      · refine (t_X6_upAgo_32 _ _ _ _ _ _ _).trans ?_
        refine x_goto.trans ?_
        refine (zrun_b (es := q_X6_upAgo_41) rfl rfl).trans ?_
        refine (x_iald (N := 192) rfl rfl).trans (pix fun _ => ?_)
        exact x_iret
    · refine (t_X6_upAgo_13 _ _ _ _ _ _).trans ?_
      exact x_iret
noncomputable def g_X6_upAgo {ρ : Type} (σ : zH) (av : List zAV) (q : zH → zAV → Option ρ) : Option ρ := match av with
  | [.inr (.inr (.inl (6, ia0))), .inl xa1] => (d_X6_upAgo σ ia0 xa1).bind fun p => q p.1 (vI p.2)
  | _ => none
theorem gr_X6_upAgo {ρ : Type} (σ : zH) (ia0 : Nat) (xa1 : Int32) (q : zH → zAV → Option ρ) : g_X6_upAgo σ [vR 6 ia0, vI xa1] q = (d_X6_upAgo σ ia0 xa1).bind fun p => q p.1 (vI p.2) := rfl
theorem c_X6_upAgo {ρ : Type} {X : zX} (hX : zHX X) {σ : zH} {av : List zAV} {q : zH → zAV → Option ρ} {r : ρ} (h : g_X6_upAgo σ av q = some r) (hv : ∀ a ∈ av, zval X a) : zcon X 55 σ av q r := by
  unfold g_X6_upAgo at h
  split at h
  · exact zcon_I (n := 55) (ml := 3) (rc := 0) (st := 0) (kd := 6) (np := 1) (by decide +kernel) (by decide) ⟨_, _, rfl, rfl⟩ (Nat.le_of_ble_eq_true rfl) hv h (fun y h1 => (zin_ok (hy_X6_upAgo hX) bk_X6_upAgo (fun t f hf => by
      cases hf) ((e_X6_upAgo _ _ _).symm.trans h1)))
  · cases h
/-! SleepWaves$Log.quartersWith(I)I -/
def q_X6_quartersWith_0 : List zEnt := zEk 0 (.iconst 0) 1 0 :: zE 1 (.istore_n 2) 1 :: zEk 2 (.iconst 1) 1 1 :: zE 3 (.istore_n 3) 1 :: [zE 4 .nop 0]
def q_X6_quartersWith_29 : List zEnt := zEa 29 (.goto (-25)) 3 4 :: []
def q_X6_quartersWith_26 : List zEnt := zEk 26 (.iinc 3 1) 3 1 :: q_X6_quartersWith_29
def q_X6_quartersWith_23 : List zEnt := zEk 23 (.iinc 2 1) 3 1 :: q_X6_quartersWith_26
def q_X6_quartersWith_20 : List zEnt := zEa 20 (.if_icmp .ne 6) 3 26 :: q_X6_quartersWith_23
def q_X6_quartersWith_17 : List zEnt := zE 17 (.iload_n 1) 1 :: zE 18 .iand 1 :: zE 19 (.iload_n 1) 1 :: q_X6_quartersWith_20
def q_X6_quartersWith_14 : List zEnt := zEc 14 (.invokevirtual 34) 3 55 2 83 0 :: q_X6_quartersWith_17
def q_X6_quartersWith_12 : List zEnt := zE 12 (.aload_n 0) 1 :: zE 13 (.iload_n 3) 1 :: q_X6_quartersWith_14
def q_X6_quartersWith_9 : List zEnt := zEa 9 (.if_icmp .gt 23) 3 32 :: q_X6_quartersWith_12
def q_X6_quartersWith_4 : List zEnt := zE 4 (.iload_n 3) 1 :: zE 5 (.aload_n 0) 1 :: zEf 6 (.getfield 19) 3 6 2 125 (0, 0, 0) :: q_X6_quartersWith_9
def q_X6_quartersWith_33 : List zEnt := zE 33 .ireturn 1 :: []
def q_X6_quartersWith_32 : List zEnt := zE 32 (.iload_n 2) 1 :: q_X6_quartersWith_33
def b_X6_quartersWith : List (Nat × List zEnt) := [(0, q_X6_quartersWith_0), (4, q_X6_quartersWith_4), (26, q_X6_quartersWith_26), (32, q_X6_quartersWith_32)]
theorem bk_X6_quartersWith : zchB 56 b_X6_quartersWith = true := by decide +kernel
noncomputable def cc_X6_quartersWith {ρ : Type} : Nat → zH → List zAV → (zH → zAV → Option ρ) → Option ρ := fun n σ av q => if n = 55 then g_X6_upAgo σ av q else none
theorem cs_X6_quartersWith {ρ : Type} {X : zX} (hX : zHX X) : zCS X (cc_X6_quartersWith (ρ := ρ)) := by
  intro n σ av q r h hv
  unfold cc_X6_quartersWith at h
  by_cases e_X6_upAgo : n = 55
  · rw [if_pos e_X6_upAgo] at h
    subst e_X6_upAgo
    exact c_X6_upAgo hX h hv
  rw [if_neg e_X6_upAgo] at h
  cases h
theorem cl_X6_quartersWith_X6_upAgo {ρ : Type} (σ : zH) (av : List zAV) (q : zH → zAV → Option ρ) : cc_X6_quartersWith 55 σ av q = g_X6_upAgo σ av q := rfl
theorem hy_X6_quartersWith {ρ : Type} {X : zX} (hX : zHX X) : zHY X 56 (cc_X6_quartersWith (ρ := ρ)) := zHX.hY hX (cs_X6_quartersWith hX) (zmok_all 56 (by decide))
def gl_X6_quartersWith_4 {ρ : Type} (f : zH → Nat → Int32 → Int32 → Int32 → Option ρ) (σ : zH) (L st : List zAV) : Option ρ := match L, st with
  | [.inr (.inr (.inl (6, i0))), .inl x1, .inl x2, .inl x3], [] => f σ i0 x1 x2 x3
  | _, _ => none
theorem glr_X6_quartersWith_4 {ρ : Type} (f : zH → Nat → Int32 → Int32 → Int32 → Option ρ) (σ : zH) (i0 : Nat) (x1 : Int32) (x2 : Int32) (x3 : Int32)  : gl_X6_quartersWith_4 f σ [vR 6 i0, vI x1, vI x2, vI x3] [] = f σ i0 x1 x2 x3 := rfl
theorem t_X6_quartersWith_0 {G : Nat → zH → List zAV → List zAV → Option (zH × Int32)} (es : List zEnt) (σ : zH) (i0 : Nat) (x1 : Int32) (y2 : zAV) (y3 : zAV) (w0 : Int32) (w2 : Int32) : zev cc_X6_quartersWith G 0 krI (zEk 0 (.iconst 0) 1 w0 :: zE 1 (.istore_n 2) 1 :: zEk 2 (.iconst 1) 1 w2 :: zE 3 (.istore_n 3) 1 :: es) σ [vR 6 i0, vI x1, y2, y3] [] = zev cc_X6_quartersWith G 0 krI es σ [vR 6 i0, vI x1, vI w0, vI w2] [] := rfl
theorem t_X6_quartersWith_4 {G : Nat → zH → List zAV → List zAV → Option (zH × Int32)} (es : List zEnt) (σ : zH) (i0 : Nat) (x1 : Int32) (x2 : Int32) (x3 : Int32)   : zev cc_X6_quartersWith G 0 krI (zE 4 (.iload_n 3) 1 :: zE 5 (.aload_n 0) 1 :: zEf 6 (.getfield 19) 3 6 2 125 (0, 0, 0) :: es) σ [vR 6 i0, vI x1, vI x2, vI x3] [] = zev cc_X6_quartersWith G 0 krI es σ [vR 6 i0, vI x1, vI x2, vI x3] [vI (σ.1 6 i0 2), vI x3] := rfl
theorem t_X6_quartersWith_12 {G : Nat → zH → List zAV → List zAV → Option (zH × Int32)} (es : List zEnt) (σ : zH) (i0 : Nat) (x1 : Int32) (x2 : Int32) (x3 : Int32)   : zev cc_X6_quartersWith G 0 krI (zE 12 (.aload_n 0) 1 :: zE 13 (.iload_n 3) 1 :: es) σ [vR 6 i0, vI x1, vI x2, vI x3] [] = zev cc_X6_quartersWith G 0 krI es σ [vR 6 i0, vI x1, vI x2, vI x3] [vI x3, vR 6 i0] := rfl
theorem t_X6_quartersWith_17 {G : Nat → zH → List zAV → List zAV → Option (zH × Int32)} (es : List zEnt) (σ : zH) (i0 : Nat) (x1 : Int32) (x2 : Int32) (x3 : Int32) (xs0 : Int32)   : zev cc_X6_quartersWith G 0 krI (zE 17 (.iload_n 1) 1 :: zE 18 .iand 1 :: zE 19 (.iload_n 1) 1 :: es) σ [vR 6 i0, vI x1, vI x2, vI x3] [vI xs0] = zev cc_X6_quartersWith G 0 krI es σ [vR 6 i0, vI x1, vI x2, vI x3] [vI x1, vI (xs0 &&& x1)] := rfl
theorem t_X6_quartersWith_23 {G : Nat → zH → List zAV → List zAV → Option (zH × Int32)} (es : List zEnt) (σ : zH) (i0 : Nat) (x1 : Int32) (x2 : Int32) (x3 : Int32)  (w23 : Int32) (w26 : Int32) : zev cc_X6_quartersWith G 0 krI (zEk 23 (.iinc 2 1) 3 w23 :: zEk 26 (.iinc 3 1) 3 w26 :: es) σ [vR 6 i0, vI x1, vI x2, vI x3] [] = zev cc_X6_quartersWith G 0 krI es σ [vR 6 i0, vI x1, vI (x2 + w23), vI (x3 + w26)] [] := rfl
theorem t_X6_quartersWith_26 {G : Nat → zH → List zAV → List zAV → Option (zH × Int32)} (es : List zEnt) (σ : zH) (i0 : Nat) (x1 : Int32) (x2 : Int32) (x3 : Int32)  (w26 : Int32) : zev cc_X6_quartersWith G 0 krI (zEk 26 (.iinc 3 1) 3 w26 :: es) σ [vR 6 i0, vI x1, vI x2, vI x3] [] = zev cc_X6_quartersWith G 0 krI es σ [vR 6 i0, vI x1, vI x2, vI (x3 + w26)] [] := rfl
theorem t_X6_quartersWith_32 {G : Nat → zH → List zAV → List zAV → Option (zH × Int32)} (es : List zEnt) (σ : zH) (x2 : Int32) (y0 : zAV) (y1 : zAV) (y3 : zAV)  : zev cc_X6_quartersWith G 0 krI (zE 32 (.iload_n 2) 1 :: es) σ [y0, y1, vI x2, y3] [] = zev cc_X6_quartersWith G 0 krI es σ [y0, y1, vI x2, y3] [vI x2] := rfl
noncomputable def k_X6_quartersWith_4  : Nat → zH → Nat → Int32 → Int32 → Int32 → Option (zH × Int32)
  | 0, _, _, _, _, _ => none
  | n + 1, σ, i0, x1, x2, x3 =>
    if (σ.1 6 i0 2) < x3 then
      some (σ, x2)
    else
      (d_X6_upAgo σ i0 x3).bind fun p1 =>
      if (p1.2 &&& x1) = x1 then
        (k_X6_quartersWith_4 n) p1.1 i0 x1 (x2 + (1 : Int32)) (x3 + (1 : Int32))
      else
        (k_X6_quartersWith_4 n) p1.1 i0 x1 x2 (x3 + (1 : Int32))
theorem e_X6_quartersWith_4  (n : Nat) (σ : zH) (i0 : Nat) (x1 : Int32) (x2 : Int32) (x3 : Int32)  : k_X6_quartersWith_4 (n + 1) σ i0 x1 x2 x3 = zin cc_X6_quartersWith (fun t => if t = 4 then some (gl_X6_quartersWith_4 (k_X6_quartersWith_4 n)) else none) 0 krI b_X6_quartersWith 4 σ [vR 6 i0, vI x1, vI x2, vI x3] [] := by
  rw [k_X6_quartersWith_4]
  refine Eq.symm ((zin_b (es := q_X6_quartersWith_4) rfl).trans ?_)
  refine (t_X6_quartersWith_4 _ _ _ _ _ _).trans ?_
  refine x_icmp.trans (pif_gt ?_ ?_)
  · refine (zrun_b (es := q_X6_quartersWith_32) rfl rfl).trans ?_
    refine (t_X6_quartersWith_32 _ _ _ _ _ _).trans ?_
    exact x_iret
  · refine (t_X6_quartersWith_12 _ _ _ _ _ _).trans ?_
    refine (x_callV rfl rfl rfl rfl).trans ((cl_X6_quartersWith_X6_upAgo _ _ _).trans ((gr_X6_upAgo _ _ _ _).trans (pbd fun _ => ?_)))
    refine (t_X6_quartersWith_17 _ _ _ _ _ _ _).trans ?_
    refine x_icmp.trans (pif_ne ?_ ?_)
    · refine (zrun_b (es := q_X6_quartersWith_26) rfl rfl).trans ?_
      refine (t_X6_quartersWith_26 _ _ _ _ _ _ _).trans ?_
      refine x_goto.trans ?_
      exact (zrun_c rfl).trans (glr_X6_quartersWith_4 _ _ _ _ _ _)
    · refine (t_X6_quartersWith_23 _ _ _ _ _ _ _ _).trans ?_
      refine x_goto.trans ?_
      exact (zrun_c rfl).trans (glr_X6_quartersWith_4 _ _ _ _ _ _)
theorem s_X6_quartersWith_4 {X : zX} (hX : zHX X)   : ∀ n σ L st r, gl_X6_quartersWith_4 (k_X6_quartersWith_4 n) σ L st = some r → zGW X 56 krI 4 σ L st r := by
  intro n
  induction n with
  | zero =>
    intro σ L st r h
    unfold gl_X6_quartersWith_4 at h
    split at h <;> cases h
  | succ n ih =>
    intro σ L st r h
    unfold gl_X6_quartersWith_4 at h
    split at h
    · exact zin_ok (hy_X6_quartersWith hX) bk_X6_quartersWith (fun t f hf => by
      by_cases e4 : t = 4
      · rw [if_pos e4] at hf; subst e4; cases hf; exact ih
      rw [if_neg e4] at hf
      cases hf) ((e_X6_quartersWith_4 _ _ _ _ _ _).symm.trans h)
    · cases h
noncomputable def d_X6_quartersWith (σ : zH) (ia0 : Nat) (xa1 : Int32) : Option (zH × Int32) :=
  (k_X6_quartersWith_4 zN) σ ia0 xa1 (0 : Int32) (1 : Int32)
theorem e_X6_quartersWith (σ : zH) (ia0 : Nat) (xa1 : Int32) : d_X6_quartersWith σ ia0 xa1 = zin cc_X6_quartersWith (fun t => if t = 4 then some (gl_X6_quartersWith_4 (k_X6_quartersWith_4 zN)) else none) 0 krI b_X6_quartersWith 0 σ [vR 6 ia0, vI xa1, vU, vU] [] := by
  unfold d_X6_quartersWith
  refine Eq.symm ((zin_b (es := q_X6_quartersWith_0) rfl).trans ?_)
  refine (t_X6_quartersWith_0 _ _ _ _ _ _ _ _).trans ?_
  refine x_cut.trans ?_
  exact (zrun_c rfl).trans (glr_X6_quartersWith_4 _ _ _ _ _ _)
noncomputable def g_X6_quartersWith {ρ : Type} (σ : zH) (av : List zAV) (q : zH → zAV → Option ρ) : Option ρ := match av with
  | [.inr (.inr (.inl (6, ia0))), .inl xa1] => (d_X6_quartersWith σ ia0 xa1).bind fun p => q p.1 (vI p.2)
  | _ => none
theorem gr_X6_quartersWith {ρ : Type} (σ : zH) (ia0 : Nat) (xa1 : Int32) (q : zH → zAV → Option ρ) : g_X6_quartersWith σ [vR 6 ia0, vI xa1] q = (d_X6_quartersWith σ ia0 xa1).bind fun p => q p.1 (vI p.2) := rfl
theorem c_X6_quartersWith {ρ : Type} {X : zX} (hX : zHX X) {σ : zH} {av : List zAV} {q : zH → zAV → Option ρ} {r : ρ} (h : g_X6_quartersWith σ av q = some r) (hv : ∀ a ∈ av, zval X a) : zcon X 56 σ av q r := by
  unfold g_X6_quartersWith at h
  split at h
  · exact zcon_I (n := 56) (ml := 4) (rc := 0) (st := 0) (kd := 6) (np := 1) (by decide +kernel) (by decide) ⟨_, _, rfl, rfl⟩ (Nat.le_of_ble_eq_true rfl) hv h (fun y h1 => (zin_ok (hy_X6_quartersWith hX) bk_X6_quartersWith (fun t f hf => by
      by_cases e4 : t = 4
      · rw [if_pos e4] at hf; subst e4; cases hf; exact ((fun σ L st r h => s_X6_quartersWith_4 hX  zN σ L st r h))
      rw [if_neg e4] at hf
      cases hf) ((e_X6_quartersWith _ _ _).symm.trans h1)))
  · cases h
/-! SleepWaves$Log.longestRun(I)I -/
def q_X6_longestRun_0 : List zEnt := zEk 0 (.iconst 0) 1 0 :: zE 1 (.istore_n 2) 1 :: zEk 2 (.iconst 0) 1 0 :: zE 3 (.istore_n 3) 1 :: zEk 4 (.iconst 1) 1 1 :: zE 5 (.istore 4) 2 :: [zE 7 .nop 0]
def q_X6_longestRun_31 : List zEnt := zEa 31 (.goto 4) 3 35 :: []
def q_X6_longestRun_28 : List zEnt := zE 28 (.iload_n 3) 1 :: zEk 29 (.iconst 1) 1 1 :: zE 30 .iadd 1 :: q_X6_longestRun_31
def q_X6_longestRun_25 : List zEnt := zEa 25 (.if_icmp .ne 9) 3 34 :: q_X6_longestRun_28
def q_X6_longestRun_22 : List zEnt := zE 22 (.iload_n 1) 1 :: zE 23 .iand 1 :: zE 24 (.iload_n 1) 1 :: q_X6_longestRun_25
def q_X6_longestRun_19 : List zEnt := zEc 19 (.invokevirtual 34) 3 55 2 83 0 :: q_X6_longestRun_22
def q_X6_longestRun_16 : List zEnt := zE 16 (.aload_n 0) 1 :: zE 17 (.iload 4) 2 :: q_X6_longestRun_19
def q_X6_longestRun_13 : List zEnt := zEa 13 (.if_icmp .gt 35) 3 48 :: q_X6_longestRun_16
def q_X6_longestRun_7 : List zEnt := zE 7 (.iload 4) 2 :: zE 9 (.aload_n 0) 1 :: zEf 10 (.getfield 19) 3 6 2 125 (0, 0, 0) :: q_X6_longestRun_13
def q_X6_longestRun_34 : List zEnt := zEk 34 (.iconst 0) 1 0 :: [zE 35 .nop 0]
def q_X6_longestRun_45 : List zEnt := zEa 45 (.goto (-38)) 3 7 :: []
def q_X6_longestRun_35 : List zEnt := zE 35 (.istore_n 3) 1 :: zE 36 (.iload_n 2) 1 :: zE 37 (.iload_n 3) 1 :: zEc 38 (.invokestatic 38) 3 9002 0 973 0 :: zE 41 (.istore_n 2) 1 :: zEk 42 (.iinc 4 1) 3 1 :: q_X6_longestRun_45
def q_X6_longestRun_49 : List zEnt := zE 49 .ireturn 1 :: []
def q_X6_longestRun_48 : List zEnt := zE 48 (.iload_n 2) 1 :: q_X6_longestRun_49
def b_X6_longestRun : List (Nat × List zEnt) := [(0, q_X6_longestRun_0), (7, q_X6_longestRun_7), (34, q_X6_longestRun_34), (35, q_X6_longestRun_35), (48, q_X6_longestRun_48)]
theorem bk_X6_longestRun : zchB 57 b_X6_longestRun = true := by decide +kernel
noncomputable def cc_X6_longestRun {ρ : Type} : Nat → zH → List zAV → (zH → zAV → Option ρ) → Option ρ := fun n σ av q => if n = 55 then g_X6_upAgo σ av q else none
theorem cs_X6_longestRun {ρ : Type} {X : zX} (hX : zHX X) : zCS X (cc_X6_longestRun (ρ := ρ)) := by
  intro n σ av q r h hv
  unfold cc_X6_longestRun at h
  by_cases e_X6_upAgo : n = 55
  · rw [if_pos e_X6_upAgo] at h
    subst e_X6_upAgo
    exact c_X6_upAgo hX h hv
  rw [if_neg e_X6_upAgo] at h
  cases h
theorem cl_X6_longestRun_X6_upAgo {ρ : Type} (σ : zH) (av : List zAV) (q : zH → zAV → Option ρ) : cc_X6_longestRun 55 σ av q = g_X6_upAgo σ av q := rfl
theorem hy_X6_longestRun {ρ : Type} {X : zX} (hX : zHX X) : zHY X 57 (cc_X6_longestRun (ρ := ρ)) := zHX.hY hX (cs_X6_longestRun hX) (zmok_all 57 (by decide))
def gl_X6_longestRun_7 {ρ : Type} (f : zH → Nat → Int32 → Int32 → Int32 → Int32 → Option ρ) (σ : zH) (L st : List zAV) : Option ρ := match L, st with
  | [.inr (.inr (.inl (6, i0))), .inl x1, .inl x2, .inl x3, .inl x4], [] => f σ i0 x1 x2 x3 x4
  | _, _ => none
def gl_X6_longestRun_35 {ρ : Type} (f : zH → Nat → Int32 → Int32 → Int32 → Int32 → Option ρ) (σ : zH) (L st : List zAV) : Option ρ := match L, st with
  | [.inr (.inr (.inl (6, i0))), .inl x1, .inl x2, _, .inl x4], [.inl xs0] => f σ i0 x1 x2 x4 xs0
  | _, _ => none
theorem glr_X6_longestRun_7 {ρ : Type} (f : zH → Nat → Int32 → Int32 → Int32 → Int32 → Option ρ) (σ : zH) (i0 : Nat) (x1 : Int32) (x2 : Int32) (x3 : Int32) (x4 : Int32)  : gl_X6_longestRun_7 f σ [vR 6 i0, vI x1, vI x2, vI x3, vI x4] [] = f σ i0 x1 x2 x3 x4 := rfl
theorem glr_X6_longestRun_35 {ρ : Type} (f : zH → Nat → Int32 → Int32 → Int32 → Int32 → Option ρ) (σ : zH) (i0 : Nat) (x1 : Int32) (x2 : Int32) (x4 : Int32) (xs0 : Int32) (y3 : zAV) : gl_X6_longestRun_35 f σ [vR 6 i0, vI x1, vI x2, y3, vI x4] [vI xs0] = f σ i0 x1 x2 x4 xs0 := rfl
theorem t_X6_longestRun_0 {G : Nat → zH → List zAV → List zAV → Option (zH × Int32)} (es : List zEnt) (σ : zH) (i0 : Nat) (x1 : Int32) (y2 : zAV) (y3 : zAV) (y4 : zAV) (w0 : Int32) (w2 : Int32) (w4 : Int32) : zev cc_X6_longestRun G 0 krI (zEk 0 (.iconst 0) 1 w0 :: zE 1 (.istore_n 2) 1 :: zEk 2 (.iconst 0) 1 w2 :: zE 3 (.istore_n 3) 1 :: zEk 4 (.iconst 1) 1 w4 :: zE 5 (.istore 4) 2 :: es) σ [vR 6 i0, vI x1, y2, y3, y4] [] = zev cc_X6_longestRun G 0 krI es σ [vR 6 i0, vI x1, vI w0, vI w2, vI w4] [] := rfl
theorem t_X6_longestRun_7 {G : Nat → zH → List zAV → List zAV → Option (zH × Int32)} (es : List zEnt) (σ : zH) (i0 : Nat) (x1 : Int32) (x2 : Int32) (x3 : Int32) (x4 : Int32)   : zev cc_X6_longestRun G 0 krI (zE 7 (.iload 4) 2 :: zE 9 (.aload_n 0) 1 :: zEf 10 (.getfield 19) 3 6 2 125 (0, 0, 0) :: es) σ [vR 6 i0, vI x1, vI x2, vI x3, vI x4] [] = zev cc_X6_longestRun G 0 krI es σ [vR 6 i0, vI x1, vI x2, vI x3, vI x4] [vI (σ.1 6 i0 2), vI x4] := rfl
theorem t_X6_longestRun_16 {G : Nat → zH → List zAV → List zAV → Option (zH × Int32)} (es : List zEnt) (σ : zH) (i0 : Nat) (x1 : Int32) (x2 : Int32) (x3 : Int32) (x4 : Int32)   : zev cc_X6_longestRun G 0 krI (zE 16 (.aload_n 0) 1 :: zE 17 (.iload 4) 2 :: es) σ [vR 6 i0, vI x1, vI x2, vI x3, vI x4] [] = zev cc_X6_longestRun G 0 krI es σ [vR 6 i0, vI x1, vI x2, vI x3, vI x4] [vI x4, vR 6 i0] := rfl
theorem t_X6_longestRun_22 {G : Nat → zH → List zAV → List zAV → Option (zH × Int32)} (es : List zEnt) (σ : zH) (i0 : Nat) (x1 : Int32) (x2 : Int32) (x3 : Int32) (x4 : Int32) (xs0 : Int32)   : zev cc_X6_longestRun G 0 krI (zE 22 (.iload_n 1) 1 :: zE 23 .iand 1 :: zE 24 (.iload_n 1) 1 :: es) σ [vR 6 i0, vI x1, vI x2, vI x3, vI x4] [vI xs0] = zev cc_X6_longestRun G 0 krI es σ [vR 6 i0, vI x1, vI x2, vI x3, vI x4] [vI x1, vI (xs0 &&& x1)] := rfl
theorem t_X6_longestRun_28 {G : Nat → zH → List zAV → List zAV → Option (zH × Int32)} (es : List zEnt) (σ : zH) (i0 : Nat) (x1 : Int32) (x2 : Int32) (x3 : Int32) (x4 : Int32)  (w29 : Int32) : zev cc_X6_longestRun G 0 krI (zE 28 (.iload_n 3) 1 :: zEk 29 (.iconst 1) 1 w29 :: zE 30 .iadd 1 :: es) σ [vR 6 i0, vI x1, vI x2, vI x3, vI x4] [] = zev cc_X6_longestRun G 0 krI es σ [vR 6 i0, vI x1, vI x2, vI x3, vI x4] [vI (x3 + w29)] := rfl
theorem t_X6_longestRun_34 {G : Nat → zH → List zAV → List zAV → Option (zH × Int32)} (es : List zEnt) (σ : zH) (i0 : Nat) (x1 : Int32) (x2 : Int32) (x4 : Int32) (y3 : zAV) (w34 : Int32) : zev cc_X6_longestRun G 0 krI (zEk 34 (.iconst 0) 1 w34 :: es) σ [vR 6 i0, vI x1, vI x2, y3, vI x4] [] = zev cc_X6_longestRun G 0 krI es σ [vR 6 i0, vI x1, vI x2, y3, vI x4] [vI w34] := rfl
theorem t_X6_longestRun_35 {G : Nat → zH → List zAV → List zAV → Option (zH × Int32)} (es : List zEnt) (σ : zH) (i0 : Nat) (x1 : Int32) (x2 : Int32) (x4 : Int32) (xs0 : Int32) (y3 : zAV) (w42 : Int32) : zev cc_X6_longestRun G 0 krI (zE 35 (.istore_n 3) 1 :: zE 36 (.iload_n 2) 1 :: zE 37 (.iload_n 3) 1 :: zEc 38 (.invokestatic 38) 3 9002 0 973 0 :: zE 41 (.istore_n 2) 1 :: zEk 42 (.iinc 4 1) 3 w42 :: es) σ [vR 6 i0, vI x1, vI x2, y3, vI x4] [vI xs0] = zev cc_X6_longestRun G 0 krI es σ [vR 6 i0, vI x1, vI (zmx x2 xs0), vI xs0, vI (x4 + w42)] [] := rfl
theorem t_X6_longestRun_48 {G : Nat → zH → List zAV → List zAV → Option (zH × Int32)} (es : List zEnt) (σ : zH) (x2 : Int32) (y0 : zAV) (y1 : zAV) (y3 : zAV) (y4 : zAV)  : zev cc_X6_longestRun G 0 krI (zE 48 (.iload_n 2) 1 :: es) σ [y0, y1, vI x2, y3, y4] [] = zev cc_X6_longestRun G 0 krI es σ [y0, y1, vI x2, y3, y4] [vI x2] := rfl
noncomputable def j_X6_longestRun_35 (c7 : zH → Nat → Int32 → Int32 → Int32 → Int32 → Option (zH × Int32)) (σ : zH) (i0 : Nat) (x1 : Int32) (x2 : Int32) (x4 : Int32) (xs0 : Int32) : Option (zH × Int32) :=
  c7 σ i0 x1 (zmx x2 xs0) xs0 (x4 + (1 : Int32))
theorem e_X6_longestRun_35 (c7 : zH → Nat → Int32 → Int32 → Int32 → Int32 → Option (zH × Int32)) (σ : zH) (i0 : Nat) (x1 : Int32) (x2 : Int32) (x4 : Int32) (xs0 : Int32) (y3 : zAV) : j_X6_longestRun_35 c7 σ i0 x1 x2 x4 xs0 = zin cc_X6_longestRun (fun t => if t = 7 then some (gl_X6_longestRun_7 c7) else none) 0 krI b_X6_longestRun 35 σ [vR 6 i0, vI x1, vI x2, y3, vI x4] [vI xs0] := by
  unfold j_X6_longestRun_35
  refine Eq.symm ((zin_b (es := q_X6_longestRun_35) rfl).trans ?_)
  refine (t_X6_longestRun_35 _ _ _ _ _ _ _ _ _).trans ?_
  refine x_goto.trans ?_
  exact (zrun_c rfl).trans (glr_X6_longestRun_7 _ _ _ _ _ _ _)
theorem s_X6_longestRun_35 {X : zX} (hX : zHX X) {c7 : zH → Nat → Int32 → Int32 → Int32 → Int32 → Option (zH × Int32)} (h7 : ∀ σ L st r, gl_X6_longestRun_7 c7 σ L st = some r → zGW X 57 krI 7 σ L st r) : ∀ σ L st r, gl_X6_longestRun_35 (j_X6_longestRun_35 c7) σ L st = some r → zGW X 57 krI 35 σ L st r := by
  intro σ L st r h
  unfold gl_X6_longestRun_35 at h
  split at h
  · exact zin_ok (hy_X6_longestRun hX) bk_X6_longestRun (fun t f hf => by
    by_cases e7 : t = 7
    · rw [if_pos e7] at hf; subst e7; cases hf; exact h7
    rw [if_neg e7] at hf
    cases hf) ((e_X6_longestRun_35 _ _ _ _ _ _ _ _).symm.trans h)
  · cases h
noncomputable def k_X6_longestRun_7  : Nat → zH → Nat → Int32 → Int32 → Int32 → Int32 → Option (zH × Int32)
  | 0, _, _, _, _, _, _ => none
  | n + 1, σ, i0, x1, x2, x3, x4 =>
    if (σ.1 6 i0 2) < x4 then
      some (σ, x2)
    else
      (d_X6_upAgo σ i0 x4).bind fun p1 =>
      if (p1.2 &&& x1) = x1 then
        (j_X6_longestRun_35 (k_X6_longestRun_7 n)) p1.1 i0 x1 x2 x4 (x3 + (1 : Int32))
      else
        (j_X6_longestRun_35 (k_X6_longestRun_7 n)) p1.1 i0 x1 x2 x4 (0 : Int32)
theorem e_X6_longestRun_7  (n : Nat) (σ : zH) (i0 : Nat) (x1 : Int32) (x2 : Int32) (x3 : Int32) (x4 : Int32)  : k_X6_longestRun_7 (n + 1) σ i0 x1 x2 x3 x4 = zin cc_X6_longestRun (fun t => if t = 35 then some (gl_X6_longestRun_35 (j_X6_longestRun_35 (k_X6_longestRun_7 n))) else none) 0 krI b_X6_longestRun 7 σ [vR 6 i0, vI x1, vI x2, vI x3, vI x4] [] := by
  rw [k_X6_longestRun_7]
  refine Eq.symm ((zin_b (es := q_X6_longestRun_7) rfl).trans ?_)
  refine (t_X6_longestRun_7 _ _ _ _ _ _ _).trans ?_
  refine x_icmp.trans (pif_gt ?_ ?_)
  · refine (zrun_b (es := q_X6_longestRun_48) rfl rfl).trans ?_
    refine (t_X6_longestRun_48 _ _ _ _ _ _ _).trans ?_
    exact x_iret
  · refine (t_X6_longestRun_16 _ _ _ _ _ _ _).trans ?_
    refine (x_callV rfl rfl rfl rfl).trans ((cl_X6_longestRun_X6_upAgo _ _ _).trans ((gr_X6_upAgo _ _ _ _).trans (pbd fun _ => ?_)))
    refine (t_X6_longestRun_22 _ _ _ _ _ _ _ _).trans ?_
    refine x_icmp.trans (pif_ne ?_ ?_)
    · refine (zrun_b (es := q_X6_longestRun_34) rfl rfl).trans ?_
      refine (t_X6_longestRun_34 _ _ _ _ _ _ _ _).trans ?_
      refine x_cut.trans ?_
      exact (zrun_c rfl).trans (glr_X6_longestRun_35 _ _ _ _ _ _ _ _)
    · refine (t_X6_longestRun_28 _ _ _ _ _ _ _ _).trans ?_
      refine x_goto.trans ?_
      exact (zrun_c rfl).trans (glr_X6_longestRun_35 _ _ _ _ _ _ _ _)
theorem s_X6_longestRun_7 {X : zX} (hX : zHX X)   : ∀ n σ L st r, gl_X6_longestRun_7 (k_X6_longestRun_7 n) σ L st = some r → zGW X 57 krI 7 σ L st r := by
  intro n
  induction n with
  | zero =>
    intro σ L st r h
    unfold gl_X6_longestRun_7 at h
    split at h <;> cases h
  | succ n ih =>
    intro σ L st r h
    unfold gl_X6_longestRun_7 at h
    split at h
    · exact zin_ok (hy_X6_longestRun hX) bk_X6_longestRun (fun t f hf => by
      by_cases e35 : t = 35
      · rw [if_pos e35] at hf; subst e35; cases hf; exact (s_X6_longestRun_35 hX ih)
      rw [if_neg e35] at hf
      cases hf) ((e_X6_longestRun_7 _ _ _ _ _ _ _).symm.trans h)
    · cases h
noncomputable def d_X6_longestRun (σ : zH) (ia0 : Nat) (xa1 : Int32) : Option (zH × Int32) :=
  (k_X6_longestRun_7 zN) σ ia0 xa1 (0 : Int32) (0 : Int32) (1 : Int32)
theorem e_X6_longestRun (σ : zH) (ia0 : Nat) (xa1 : Int32) : d_X6_longestRun σ ia0 xa1 = zin cc_X6_longestRun (fun t => if t = 7 then some (gl_X6_longestRun_7 (k_X6_longestRun_7 zN)) else none) 0 krI b_X6_longestRun 0 σ [vR 6 ia0, vI xa1, vU, vU, vU] [] := by
  unfold d_X6_longestRun
  refine Eq.symm ((zin_b (es := q_X6_longestRun_0) rfl).trans ?_)
  refine (t_X6_longestRun_0 _ _ _ _ _ _ _ _ _ _).trans ?_
  refine x_cut.trans ?_
  exact (zrun_c rfl).trans (glr_X6_longestRun_7 _ _ _ _ _ _ _)
noncomputable def g_X6_longestRun {ρ : Type} (σ : zH) (av : List zAV) (q : zH → zAV → Option ρ) : Option ρ := match av with
  | [.inr (.inr (.inl (6, ia0))), .inl xa1] => (d_X6_longestRun σ ia0 xa1).bind fun p => q p.1 (vI p.2)
  | _ => none
theorem gr_X6_longestRun {ρ : Type} (σ : zH) (ia0 : Nat) (xa1 : Int32) (q : zH → zAV → Option ρ) : g_X6_longestRun σ [vR 6 ia0, vI xa1] q = (d_X6_longestRun σ ia0 xa1).bind fun p => q p.1 (vI p.2) := rfl
theorem c_X6_longestRun {ρ : Type} {X : zX} (hX : zHX X) {σ : zH} {av : List zAV} {q : zH → zAV → Option ρ} {r : ρ} (h : g_X6_longestRun σ av q = some r) (hv : ∀ a ∈ av, zval X a) : zcon X 57 σ av q r := by
  unfold g_X6_longestRun at h
  split at h
  · exact zcon_I (n := 57) (ml := 5) (rc := 0) (st := 0) (kd := 6) (np := 1) (by decide +kernel) (by decide) ⟨_, _, rfl, rfl⟩ (Nat.le_of_ble_eq_true rfl) hv h (fun y h1 => (zin_ok (hy_X6_longestRun hX) bk_X6_longestRun (fun t f hf => by
      by_cases e7 : t = 7
      · rw [if_pos e7] at hf; subst e7; cases hf; exact ((fun σ L st r h => s_X6_longestRun_7 hX  zN σ L st r h))
      rw [if_neg e7] at hf
      cases hf) ((e_X6_longestRun _ _ _).symm.trans h1)))
  · cases h
/-! SleepWaves$Log.quartersOf(I)I -/
def q_X6_quartersOf_0 : List zEnt := zEk 0 (.iconst 0) 1 0 :: zE 1 (.istore_n 2) 1 :: zEk 2 (.iconst 1) 1 1 :: zE 3 (.istore_n 3) 1 :: [zE 4 .nop 0]
def q_X6_quartersOf_27 : List zEnt := zEa 27 (.goto (-23)) 3 4 :: []
def q_X6_quartersOf_24 : List zEnt := zEk 24 (.iinc 3 1) 3 1 :: q_X6_quartersOf_27
def q_X6_quartersOf_21 : List zEnt := zEk 21 (.iinc 2 1) 3 1 :: q_X6_quartersOf_24
def q_X6_quartersOf_18 : List zEnt := zEa 18 (.if_icmp .ne 6) 3 24 :: q_X6_quartersOf_21
def q_X6_quartersOf_17 : List zEnt := zE 17 (.iload_n 1) 1 :: q_X6_quartersOf_18
def q_X6_quartersOf_14 : List zEnt := zEc 14 (.invokevirtual 34) 3 55 2 83 0 :: q_X6_quartersOf_17
def q_X6_quartersOf_12 : List zEnt := zE 12 (.aload_n 0) 1 :: zE 13 (.iload_n 3) 1 :: q_X6_quartersOf_14
def q_X6_quartersOf_9 : List zEnt := zEa 9 (.if_icmp .gt 21) 3 30 :: q_X6_quartersOf_12
def q_X6_quartersOf_4 : List zEnt := zE 4 (.iload_n 3) 1 :: zE 5 (.aload_n 0) 1 :: zEf 6 (.getfield 19) 3 6 2 125 (0, 0, 0) :: q_X6_quartersOf_9
def q_X6_quartersOf_31 : List zEnt := zE 31 .ireturn 1 :: []
def q_X6_quartersOf_30 : List zEnt := zE 30 (.iload_n 2) 1 :: q_X6_quartersOf_31
def b_X6_quartersOf : List (Nat × List zEnt) := [(0, q_X6_quartersOf_0), (4, q_X6_quartersOf_4), (24, q_X6_quartersOf_24), (30, q_X6_quartersOf_30)]
theorem bk_X6_quartersOf : zchB 58 b_X6_quartersOf = true := by decide +kernel
noncomputable def cc_X6_quartersOf {ρ : Type} : Nat → zH → List zAV → (zH → zAV → Option ρ) → Option ρ := fun n σ av q => if n = 55 then g_X6_upAgo σ av q else none
theorem cs_X6_quartersOf {ρ : Type} {X : zX} (hX : zHX X) : zCS X (cc_X6_quartersOf (ρ := ρ)) := by
  intro n σ av q r h hv
  unfold cc_X6_quartersOf at h
  by_cases e_X6_upAgo : n = 55
  · rw [if_pos e_X6_upAgo] at h
    subst e_X6_upAgo
    exact c_X6_upAgo hX h hv
  rw [if_neg e_X6_upAgo] at h
  cases h
theorem cl_X6_quartersOf_X6_upAgo {ρ : Type} (σ : zH) (av : List zAV) (q : zH → zAV → Option ρ) : cc_X6_quartersOf 55 σ av q = g_X6_upAgo σ av q := rfl
theorem hy_X6_quartersOf {ρ : Type} {X : zX} (hX : zHX X) : zHY X 58 (cc_X6_quartersOf (ρ := ρ)) := zHX.hY hX (cs_X6_quartersOf hX) (zmok_all 58 (by decide))
def gl_X6_quartersOf_4 {ρ : Type} (f : zH → Nat → Int32 → Int32 → Int32 → Option ρ) (σ : zH) (L st : List zAV) : Option ρ := match L, st with
  | [.inr (.inr (.inl (6, i0))), .inl x1, .inl x2, .inl x3], [] => f σ i0 x1 x2 x3
  | _, _ => none
theorem glr_X6_quartersOf_4 {ρ : Type} (f : zH → Nat → Int32 → Int32 → Int32 → Option ρ) (σ : zH) (i0 : Nat) (x1 : Int32) (x2 : Int32) (x3 : Int32)  : gl_X6_quartersOf_4 f σ [vR 6 i0, vI x1, vI x2, vI x3] [] = f σ i0 x1 x2 x3 := rfl
theorem t_X6_quartersOf_0 {G : Nat → zH → List zAV → List zAV → Option (zH × Int32)} (es : List zEnt) (σ : zH) (i0 : Nat) (x1 : Int32) (y2 : zAV) (y3 : zAV) (w0 : Int32) (w2 : Int32) : zev cc_X6_quartersOf G 0 krI (zEk 0 (.iconst 0) 1 w0 :: zE 1 (.istore_n 2) 1 :: zEk 2 (.iconst 1) 1 w2 :: zE 3 (.istore_n 3) 1 :: es) σ [vR 6 i0, vI x1, y2, y3] [] = zev cc_X6_quartersOf G 0 krI es σ [vR 6 i0, vI x1, vI w0, vI w2] [] := rfl
theorem t_X6_quartersOf_4 {G : Nat → zH → List zAV → List zAV → Option (zH × Int32)} (es : List zEnt) (σ : zH) (i0 : Nat) (x1 : Int32) (x2 : Int32) (x3 : Int32)   : zev cc_X6_quartersOf G 0 krI (zE 4 (.iload_n 3) 1 :: zE 5 (.aload_n 0) 1 :: zEf 6 (.getfield 19) 3 6 2 125 (0, 0, 0) :: es) σ [vR 6 i0, vI x1, vI x2, vI x3] [] = zev cc_X6_quartersOf G 0 krI es σ [vR 6 i0, vI x1, vI x2, vI x3] [vI (σ.1 6 i0 2), vI x3] := rfl
theorem t_X6_quartersOf_12 {G : Nat → zH → List zAV → List zAV → Option (zH × Int32)} (es : List zEnt) (σ : zH) (i0 : Nat) (x1 : Int32) (x2 : Int32) (x3 : Int32)   : zev cc_X6_quartersOf G 0 krI (zE 12 (.aload_n 0) 1 :: zE 13 (.iload_n 3) 1 :: es) σ [vR 6 i0, vI x1, vI x2, vI x3] [] = zev cc_X6_quartersOf G 0 krI es σ [vR 6 i0, vI x1, vI x2, vI x3] [vI x3, vR 6 i0] := rfl
theorem t_X6_quartersOf_17 {G : Nat → zH → List zAV → List zAV → Option (zH × Int32)} (es : List zEnt) (σ : zH) (i0 : Nat) (x1 : Int32) (x2 : Int32) (x3 : Int32) (xs0 : Int32)   : zev cc_X6_quartersOf G 0 krI (zE 17 (.iload_n 1) 1 :: es) σ [vR 6 i0, vI x1, vI x2, vI x3] [vI xs0] = zev cc_X6_quartersOf G 0 krI es σ [vR 6 i0, vI x1, vI x2, vI x3] [vI x1, vI xs0] := rfl
theorem t_X6_quartersOf_21 {G : Nat → zH → List zAV → List zAV → Option (zH × Int32)} (es : List zEnt) (σ : zH) (i0 : Nat) (x1 : Int32) (x2 : Int32) (x3 : Int32)  (w21 : Int32) (w24 : Int32) : zev cc_X6_quartersOf G 0 krI (zEk 21 (.iinc 2 1) 3 w21 :: zEk 24 (.iinc 3 1) 3 w24 :: es) σ [vR 6 i0, vI x1, vI x2, vI x3] [] = zev cc_X6_quartersOf G 0 krI es σ [vR 6 i0, vI x1, vI (x2 + w21), vI (x3 + w24)] [] := rfl
theorem t_X6_quartersOf_24 {G : Nat → zH → List zAV → List zAV → Option (zH × Int32)} (es : List zEnt) (σ : zH) (i0 : Nat) (x1 : Int32) (x2 : Int32) (x3 : Int32)  (w24 : Int32) : zev cc_X6_quartersOf G 0 krI (zEk 24 (.iinc 3 1) 3 w24 :: es) σ [vR 6 i0, vI x1, vI x2, vI x3] [] = zev cc_X6_quartersOf G 0 krI es σ [vR 6 i0, vI x1, vI x2, vI (x3 + w24)] [] := rfl
theorem t_X6_quartersOf_30 {G : Nat → zH → List zAV → List zAV → Option (zH × Int32)} (es : List zEnt) (σ : zH) (x2 : Int32) (y0 : zAV) (y1 : zAV) (y3 : zAV)  : zev cc_X6_quartersOf G 0 krI (zE 30 (.iload_n 2) 1 :: es) σ [y0, y1, vI x2, y3] [] = zev cc_X6_quartersOf G 0 krI es σ [y0, y1, vI x2, y3] [vI x2] := rfl
noncomputable def k_X6_quartersOf_4  : Nat → zH → Nat → Int32 → Int32 → Int32 → Option (zH × Int32)
  | 0, _, _, _, _, _ => none
  | n + 1, σ, i0, x1, x2, x3 =>
    if (σ.1 6 i0 2) < x3 then
      some (σ, x2)
    else
      (d_X6_upAgo σ i0 x3).bind fun p1 =>
      if p1.2 = x1 then
        (k_X6_quartersOf_4 n) p1.1 i0 x1 (x2 + (1 : Int32)) (x3 + (1 : Int32))
      else
        (k_X6_quartersOf_4 n) p1.1 i0 x1 x2 (x3 + (1 : Int32))
theorem e_X6_quartersOf_4  (n : Nat) (σ : zH) (i0 : Nat) (x1 : Int32) (x2 : Int32) (x3 : Int32)  : k_X6_quartersOf_4 (n + 1) σ i0 x1 x2 x3 = zin cc_X6_quartersOf (fun t => if t = 4 then some (gl_X6_quartersOf_4 (k_X6_quartersOf_4 n)) else none) 0 krI b_X6_quartersOf 4 σ [vR 6 i0, vI x1, vI x2, vI x3] [] := by
  rw [k_X6_quartersOf_4]
  refine Eq.symm ((zin_b (es := q_X6_quartersOf_4) rfl).trans ?_)
  refine (t_X6_quartersOf_4 _ _ _ _ _ _).trans ?_
  refine x_icmp.trans (pif_gt ?_ ?_)
  · refine (zrun_b (es := q_X6_quartersOf_30) rfl rfl).trans ?_
    refine (t_X6_quartersOf_30 _ _ _ _ _ _).trans ?_
    exact x_iret
  · refine (t_X6_quartersOf_12 _ _ _ _ _ _).trans ?_
    refine (x_callV rfl rfl rfl rfl).trans ((cl_X6_quartersOf_X6_upAgo _ _ _).trans ((gr_X6_upAgo _ _ _ _).trans (pbd fun _ => ?_)))
    refine (t_X6_quartersOf_17 _ _ _ _ _ _ _).trans ?_
    refine x_icmp.trans (pif_ne ?_ ?_)
    · refine (zrun_b (es := q_X6_quartersOf_24) rfl rfl).trans ?_
      refine (t_X6_quartersOf_24 _ _ _ _ _ _ _).trans ?_
      refine x_goto.trans ?_
      exact (zrun_c rfl).trans (glr_X6_quartersOf_4 _ _ _ _ _ _)
    · refine (t_X6_quartersOf_21 _ _ _ _ _ _ _ _).trans ?_
      refine x_goto.trans ?_
      exact (zrun_c rfl).trans (glr_X6_quartersOf_4 _ _ _ _ _ _)
theorem s_X6_quartersOf_4 {X : zX} (hX : zHX X)   : ∀ n σ L st r, gl_X6_quartersOf_4 (k_X6_quartersOf_4 n) σ L st = some r → zGW X 58 krI 4 σ L st r := by
  intro n
  induction n with
  | zero =>
    intro σ L st r h
    unfold gl_X6_quartersOf_4 at h
    split at h <;> cases h
  | succ n ih =>
    intro σ L st r h
    unfold gl_X6_quartersOf_4 at h
    split at h
    · exact zin_ok (hy_X6_quartersOf hX) bk_X6_quartersOf (fun t f hf => by
      by_cases e4 : t = 4
      · rw [if_pos e4] at hf; subst e4; cases hf; exact ih
      rw [if_neg e4] at hf
      cases hf) ((e_X6_quartersOf_4 _ _ _ _ _ _).symm.trans h)
    · cases h
noncomputable def d_X6_quartersOf (σ : zH) (ia0 : Nat) (xa1 : Int32) : Option (zH × Int32) :=
  (k_X6_quartersOf_4 zN) σ ia0 xa1 (0 : Int32) (1 : Int32)
theorem e_X6_quartersOf (σ : zH) (ia0 : Nat) (xa1 : Int32) : d_X6_quartersOf σ ia0 xa1 = zin cc_X6_quartersOf (fun t => if t = 4 then some (gl_X6_quartersOf_4 (k_X6_quartersOf_4 zN)) else none) 0 krI b_X6_quartersOf 0 σ [vR 6 ia0, vI xa1, vU, vU] [] := by
  unfold d_X6_quartersOf
  refine Eq.symm ((zin_b (es := q_X6_quartersOf_0) rfl).trans ?_)
  refine (t_X6_quartersOf_0 _ _ _ _ _ _ _ _).trans ?_
  refine x_cut.trans ?_
  exact (zrun_c rfl).trans (glr_X6_quartersOf_4 _ _ _ _ _ _)
noncomputable def g_X6_quartersOf {ρ : Type} (σ : zH) (av : List zAV) (q : zH → zAV → Option ρ) : Option ρ := match av with
  | [.inr (.inr (.inl (6, ia0))), .inl xa1] => (d_X6_quartersOf σ ia0 xa1).bind fun p => q p.1 (vI p.2)
  | _ => none
theorem gr_X6_quartersOf {ρ : Type} (σ : zH) (ia0 : Nat) (xa1 : Int32) (q : zH → zAV → Option ρ) : g_X6_quartersOf σ [vR 6 ia0, vI xa1] q = (d_X6_quartersOf σ ia0 xa1).bind fun p => q p.1 (vI p.2) := rfl
theorem c_X6_quartersOf {ρ : Type} {X : zX} (hX : zHX X) {σ : zH} {av : List zAV} {q : zH → zAV → Option ρ} {r : ρ} (h : g_X6_quartersOf σ av q = some r) (hv : ∀ a ∈ av, zval X a) : zcon X 58 σ av q r := by
  unfold g_X6_quartersOf at h
  split at h
  · exact zcon_I (n := 58) (ml := 4) (rc := 0) (st := 0) (kd := 6) (np := 1) (by decide +kernel) (by decide) ⟨_, _, rfl, rfl⟩ (Nat.le_of_ble_eq_true rfl) hv h (fun y h1 => (zin_ok (hy_X6_quartersOf hX) bk_X6_quartersOf (fun t f hf => by
      by_cases e4 : t = 4
      · rw [if_pos e4] at hf; subst e4; cases hf; exact ((fun σ L st r h => s_X6_quartersOf_4 hX  zN σ L st r h))
      rw [if_neg e4] at hf
      cases hf) ((e_X6_quartersOf _ _ _).symm.trans h1)))
  · cases h
/-! SleepWaves$Log.lastOf(I)I -/
def q_X6_lastOf_0 : List zEnt := zEk 0 (.iconst 1) 1 1 :: zE 1 (.istore_n 2) 1 :: [zE 2 .nop 0]
def q_X6_lastOf_20 : List zEnt := zE 20 .ireturn 1 :: []
def q_X6_lastOf_19 : List zEnt := zE 19 (.iload_n 2) 1 :: q_X6_lastOf_20
def q_X6_lastOf_16 : List zEnt := zEa 16 (.if_icmp .ne 5) 3 21 :: q_X6_lastOf_19
def q_X6_lastOf_15 : List zEnt := zE 15 (.iload_n 1) 1 :: q_X6_lastOf_16
def q_X6_lastOf_12 : List zEnt := zEc 12 (.invokevirtual 34) 3 55 2 83 0 :: q_X6_lastOf_15
def q_X6_lastOf_10 : List zEnt := zE 10 (.aload_n 0) 1 :: zE 11 (.iload_n 2) 1 :: q_X6_lastOf_12
def q_X6_lastOf_7 : List zEnt := zEa 7 (.if_icmp .gt 20) 3 27 :: q_X6_lastOf_10
def q_X6_lastOf_2 : List zEnt := zE 2 (.iload_n 2) 1 :: zE 3 (.aload_n 0) 1 :: zEf 4 (.getfield 19) 3 6 2 125 (0, 0, 0) :: q_X6_lastOf_7
def q_X6_lastOf_24 : List zEnt := zEa 24 (.goto (-22)) 3 2 :: []
def q_X6_lastOf_21 : List zEnt := zEk 21 (.iinc 2 1) 3 1 :: q_X6_lastOf_24
def q_X6_lastOf_29 : List zEnt := zE 29 .ireturn 1 :: []
def q_X6_lastOf_27 : List zEnt := zEk 27 (.bipush (-2)) 2 (-2) :: q_X6_lastOf_29
def b_X6_lastOf : List (Nat × List zEnt) := [(0, q_X6_lastOf_0), (2, q_X6_lastOf_2), (21, q_X6_lastOf_21), (27, q_X6_lastOf_27)]
theorem bk_X6_lastOf : zchB 59 b_X6_lastOf = true := by decide +kernel
noncomputable def cc_X6_lastOf {ρ : Type} : Nat → zH → List zAV → (zH → zAV → Option ρ) → Option ρ := fun n σ av q => if n = 55 then g_X6_upAgo σ av q else none
theorem cs_X6_lastOf {ρ : Type} {X : zX} (hX : zHX X) : zCS X (cc_X6_lastOf (ρ := ρ)) := by
  intro n σ av q r h hv
  unfold cc_X6_lastOf at h
  by_cases e_X6_upAgo : n = 55
  · rw [if_pos e_X6_upAgo] at h
    subst e_X6_upAgo
    exact c_X6_upAgo hX h hv
  rw [if_neg e_X6_upAgo] at h
  cases h
theorem cl_X6_lastOf_X6_upAgo {ρ : Type} (σ : zH) (av : List zAV) (q : zH → zAV → Option ρ) : cc_X6_lastOf 55 σ av q = g_X6_upAgo σ av q := rfl
theorem hy_X6_lastOf {ρ : Type} {X : zX} (hX : zHX X) : zHY X 59 (cc_X6_lastOf (ρ := ρ)) := zHX.hY hX (cs_X6_lastOf hX) (zmok_all 59 (by decide))
def gl_X6_lastOf_2 {ρ : Type} (f : zH → Nat → Int32 → Int32 → Option ρ) (σ : zH) (L st : List zAV) : Option ρ := match L, st with
  | [.inr (.inr (.inl (6, i0))), .inl x1, .inl x2], [] => f σ i0 x1 x2
  | _, _ => none
theorem glr_X6_lastOf_2 {ρ : Type} (f : zH → Nat → Int32 → Int32 → Option ρ) (σ : zH) (i0 : Nat) (x1 : Int32) (x2 : Int32)  : gl_X6_lastOf_2 f σ [vR 6 i0, vI x1, vI x2] [] = f σ i0 x1 x2 := rfl
theorem t_X6_lastOf_0 {G : Nat → zH → List zAV → List zAV → Option (zH × Int32)} (es : List zEnt) (σ : zH) (i0 : Nat) (x1 : Int32) (y2 : zAV) (w0 : Int32) : zev cc_X6_lastOf G 0 krI (zEk 0 (.iconst 1) 1 w0 :: zE 1 (.istore_n 2) 1 :: es) σ [vR 6 i0, vI x1, y2] [] = zev cc_X6_lastOf G 0 krI es σ [vR 6 i0, vI x1, vI w0] [] := rfl
theorem t_X6_lastOf_2 {G : Nat → zH → List zAV → List zAV → Option (zH × Int32)} (es : List zEnt) (σ : zH) (i0 : Nat) (x1 : Int32) (x2 : Int32)   : zev cc_X6_lastOf G 0 krI (zE 2 (.iload_n 2) 1 :: zE 3 (.aload_n 0) 1 :: zEf 4 (.getfield 19) 3 6 2 125 (0, 0, 0) :: es) σ [vR 6 i0, vI x1, vI x2] [] = zev cc_X6_lastOf G 0 krI es σ [vR 6 i0, vI x1, vI x2] [vI (σ.1 6 i0 2), vI x2] := rfl
theorem t_X6_lastOf_10 {G : Nat → zH → List zAV → List zAV → Option (zH × Int32)} (es : List zEnt) (σ : zH) (i0 : Nat) (x1 : Int32) (x2 : Int32)   : zev cc_X6_lastOf G 0 krI (zE 10 (.aload_n 0) 1 :: zE 11 (.iload_n 2) 1 :: es) σ [vR 6 i0, vI x1, vI x2] [] = zev cc_X6_lastOf G 0 krI es σ [vR 6 i0, vI x1, vI x2] [vI x2, vR 6 i0] := rfl
theorem t_X6_lastOf_15 {G : Nat → zH → List zAV → List zAV → Option (zH × Int32)} (es : List zEnt) (σ : zH) (i0 : Nat) (x1 : Int32) (x2 : Int32) (xs0 : Int32)   : zev cc_X6_lastOf G 0 krI (zE 15 (.iload_n 1) 1 :: es) σ [vR 6 i0, vI x1, vI x2] [vI xs0] = zev cc_X6_lastOf G 0 krI es σ [vR 6 i0, vI x1, vI x2] [vI x1, vI xs0] := rfl
theorem t_X6_lastOf_19 {G : Nat → zH → List zAV → List zAV → Option (zH × Int32)} (es : List zEnt) (σ : zH) (x2 : Int32) (y0 : zAV) (y1 : zAV)  : zev cc_X6_lastOf G 0 krI (zE 19 (.iload_n 2) 1 :: es) σ [y0, y1, vI x2] [] = zev cc_X6_lastOf G 0 krI es σ [y0, y1, vI x2] [vI x2] := rfl
theorem t_X6_lastOf_21 {G : Nat → zH → List zAV → List zAV → Option (zH × Int32)} (es : List zEnt) (σ : zH) (i0 : Nat) (x1 : Int32) (x2 : Int32)  (w21 : Int32) : zev cc_X6_lastOf G 0 krI (zEk 21 (.iinc 2 1) 3 w21 :: es) σ [vR 6 i0, vI x1, vI x2] [] = zev cc_X6_lastOf G 0 krI es σ [vR 6 i0, vI x1, vI (x2 + w21)] [] := rfl
theorem t_X6_lastOf_27 {G : Nat → zH → List zAV → List zAV → Option (zH × Int32)} (es : List zEnt) (σ : zH)  (y0 : zAV) (y1 : zAV) (y2 : zAV) (w27 : Int32) : zev cc_X6_lastOf G 0 krI (zEk 27 (.bipush (-2)) 2 w27 :: es) σ [y0, y1, y2] [] = zev cc_X6_lastOf G 0 krI es σ [y0, y1, y2] [vI w27] := rfl
noncomputable def k_X6_lastOf_2  : Nat → zH → Nat → Int32 → Int32 → Option (zH × Int32)
  | 0, _, _, _, _ => none
  | n + 1, σ, i0, x1, x2 =>
    if (σ.1 6 i0 2) < x2 then
      some (σ, (-2 : Int32))
    else
      (d_X6_upAgo σ i0 x2).bind fun p1 =>
      if p1.2 = x1 then
        some (p1.1, x2)
      else
        (k_X6_lastOf_2 n) p1.1 i0 x1 (x2 + (1 : Int32))
theorem e_X6_lastOf_2  (n : Nat) (σ : zH) (i0 : Nat) (x1 : Int32) (x2 : Int32)  : k_X6_lastOf_2 (n + 1) σ i0 x1 x2 = zin cc_X6_lastOf (fun t => if t = 2 then some (gl_X6_lastOf_2 (k_X6_lastOf_2 n)) else none) 0 krI b_X6_lastOf 2 σ [vR 6 i0, vI x1, vI x2] [] := by
  rw [k_X6_lastOf_2]
  refine Eq.symm ((zin_b (es := q_X6_lastOf_2) rfl).trans ?_)
  refine (t_X6_lastOf_2 _ _ _ _ _).trans ?_
  refine x_icmp.trans (pif_gt ?_ ?_)
  · refine (zrun_b (es := q_X6_lastOf_27) rfl rfl).trans ?_
    refine (t_X6_lastOf_27 _ _ _ _ _ _).trans ?_
    exact x_iret
  · refine (t_X6_lastOf_10 _ _ _ _ _).trans ?_
    refine (x_callV rfl rfl rfl rfl).trans ((cl_X6_lastOf_X6_upAgo _ _ _).trans ((gr_X6_upAgo _ _ _ _).trans (pbd fun _ => ?_)))
    refine (t_X6_lastOf_15 _ _ _ _ _ _).trans ?_
    refine x_icmp.trans (pif_ne ?_ ?_)
    · refine (zrun_b (es := q_X6_lastOf_21) rfl rfl).trans ?_
      refine (t_X6_lastOf_21 _ _ _ _ _ _).trans ?_
      refine x_goto.trans ?_
      exact (zrun_c rfl).trans (glr_X6_lastOf_2 _ _ _ _ _)
    · refine (t_X6_lastOf_19 _ _ _ _ _).trans ?_
      exact x_iret
theorem s_X6_lastOf_2 {X : zX} (hX : zHX X)   : ∀ n σ L st r, gl_X6_lastOf_2 (k_X6_lastOf_2 n) σ L st = some r → zGW X 59 krI 2 σ L st r := by
  intro n
  induction n with
  | zero =>
    intro σ L st r h
    unfold gl_X6_lastOf_2 at h
    split at h <;> cases h
  | succ n ih =>
    intro σ L st r h
    unfold gl_X6_lastOf_2 at h
    split at h
    · exact zin_ok (hy_X6_lastOf hX) bk_X6_lastOf (fun t f hf => by
      by_cases e2 : t = 2
      · rw [if_pos e2] at hf; subst e2; cases hf; exact ih
      rw [if_neg e2] at hf
      cases hf) ((e_X6_lastOf_2 _ _ _ _ _).symm.trans h)
    · cases h
noncomputable def d_X6_lastOf (σ : zH) (ia0 : Nat) (xa1 : Int32) : Option (zH × Int32) :=
  (k_X6_lastOf_2 zN) σ ia0 xa1 (1 : Int32)
theorem e_X6_lastOf (σ : zH) (ia0 : Nat) (xa1 : Int32) : d_X6_lastOf σ ia0 xa1 = zin cc_X6_lastOf (fun t => if t = 2 then some (gl_X6_lastOf_2 (k_X6_lastOf_2 zN)) else none) 0 krI b_X6_lastOf 0 σ [vR 6 ia0, vI xa1, vU] [] := by
  unfold d_X6_lastOf
  refine Eq.symm ((zin_b (es := q_X6_lastOf_0) rfl).trans ?_)
  refine (t_X6_lastOf_0 _ _ _ _ _ _).trans ?_
  refine x_cut.trans ?_
  exact (zrun_c rfl).trans (glr_X6_lastOf_2 _ _ _ _ _)
noncomputable def g_X6_lastOf {ρ : Type} (σ : zH) (av : List zAV) (q : zH → zAV → Option ρ) : Option ρ := match av with
  | [.inr (.inr (.inl (6, ia0))), .inl xa1] => (d_X6_lastOf σ ia0 xa1).bind fun p => q p.1 (vI p.2)
  | _ => none
theorem gr_X6_lastOf {ρ : Type} (σ : zH) (ia0 : Nat) (xa1 : Int32) (q : zH → zAV → Option ρ) : g_X6_lastOf σ [vR 6 ia0, vI xa1] q = (d_X6_lastOf σ ia0 xa1).bind fun p => q p.1 (vI p.2) := rfl
theorem c_X6_lastOf {ρ : Type} {X : zX} (hX : zHX X) {σ : zH} {av : List zAV} {q : zH → zAV → Option ρ} {r : ρ} (h : g_X6_lastOf σ av q = some r) (hv : ∀ a ∈ av, zval X a) : zcon X 59 σ av q r := by
  unfold g_X6_lastOf at h
  split at h
  · exact zcon_I (n := 59) (ml := 3) (rc := 0) (st := 0) (kd := 6) (np := 1) (by decide +kernel) (by decide) ⟨_, _, rfl, rfl⟩ (Nat.le_of_ble_eq_true rfl) hv h (fun y h1 => (zin_ok (hy_X6_lastOf hX) bk_X6_lastOf (fun t f hf => by
      by_cases e2 : t = 2
      · rw [if_pos e2] at hf; subst e2; cases hf; exact ((fun σ L st r h => s_X6_lastOf_2 hX  zN σ L st r h))
      rw [if_neg e2] at hf
      cases hf) ((e_X6_lastOf _ _ _).symm.trans h1)))
  · cases h
/-! SleepWaves$State.begin(LSleepWaves$Camp;)V -/
def q_X8_begin_38 : List zEnt := zEk 38 (.iconst 0) 1 0 :: zE 39 (.istore_n 2) 1 :: [zE 40 .nop 0]
def q_X8_begin_35 : List zEnt := zEf 35 (.putfield 65) 3 8 5 98 (0, 0, 0) :: q_X8_begin_38
def q_X8_begin_32 : List zEnt := zEc 32 (.invokevirtual 61) 3 4 2 23 0 :: q_X8_begin_35
def q_X8_begin_29 : List zEnt := zEc 29 (.invokevirtual 57) 3 74 1 22 0 :: q_X8_begin_32
def q_X8_begin_23 : List zEnt := zE 23 (.aload_n 0) 1 :: zE 24 (.aload_n 0) 1 :: zEf 25 (.getfield 12) 3 8 0 84 (1, 0, 1) :: zE 28 (.aload_n 0) 1 :: q_X8_begin_29
def q_X8_begin_20 : List zEnt := zEf 20 (.putfield 54) 3 8 4 96 (0, 0, 0) :: q_X8_begin_23
def q_X8_begin_18 : List zEnt := zE 18 (.aload_n 0) 1 :: zEk 19 (.iconst 0) 1 0 :: q_X8_begin_20
def q_X8_begin_15 : List zEnt := zEf 15 (.putfield 51) 3 8 3 93 (0, 0, 0) :: q_X8_begin_18
def q_X8_begin_13 : List zEnt := zE 13 (.aload_n 0) 1 :: zEk 14 (.iconst 0) 1 0 :: q_X8_begin_15
def q_X8_begin_10 : List zEnt := zEf 10 (.putfield 48) 3 8 1 88 (0, 0, 0) :: q_X8_begin_13
def q_X8_begin_8 : List zEnt := zE 8 (.aload_n 0) 1 :: zEk 9 (.iconst 0) 1 0 :: q_X8_begin_10
def q_X8_begin_5 : List zEnt := zEc 5 (.invokevirtual 44) 3 1 2 21 1 :: q_X8_begin_8
def q_X8_begin_0 : List zEnt := zE 0 (.aload_n 0) 1 :: zEf 1 (.getfield 12) 3 8 0 84 (1, 0, 1) :: zE 4 (.aload_n 1) 1 :: q_X8_begin_5
def q_X8_begin_93 : List zEnt := zEa 93 (.goto (-53)) 3 40 :: []
def q_X8_begin_90 : List zEnt := zEk 90 (.iinc 2 1) 3 1 :: q_X8_begin_93
def q_X8_begin_89 : List zEnt := zE 89 .iastore 1 :: q_X8_begin_90
def q_X8_begin_83 : List zEnt := zE 83 (.aload_n 0) 1 :: zEf 84 (.getfield 34) 3 8 11 109 (1, 36, 0) :: zE 87 (.iload_n 2) 1 :: zEk 88 (.iconst (-1)) 1 (-1) :: q_X8_begin_89
def q_X8_begin_82 : List zEnt := zE 82 .iastore 1 :: q_X8_begin_83
def q_X8_begin_76 : List zEnt := zE 76 (.aload_n 0) 1 :: zEf 77 (.getfield 31) 3 8 10 107 (1, 35, 0) :: zE 80 (.iload_n 2) 1 :: zEk 81 (.iconst 0) 1 0 :: q_X8_begin_82
def q_X8_begin_75 : List zEnt := zE 75 .iastore 1 :: q_X8_begin_76
def q_X8_begin_69 : List zEnt := zE 69 (.aload_n 0) 1 :: zEf 70 (.getfield 28) 3 8 9 105 (1, 34, 0) :: zE 73 (.iload_n 2) 1 :: zEk 74 (.iconst 0) 1 0 :: q_X8_begin_75
def q_X8_begin_68 : List zEnt := zE 68 .iastore 1 :: q_X8_begin_69
def q_X8_begin_60 : List zEnt := zE 60 (.aload_n 0) 1 :: zEf 61 (.getfield 25) 3 8 8 104 (1, 33, 0) :: zE 64 (.iload_n 2) 1 :: zEk 65 (.sipush (-1000)) 3 (-1000) :: q_X8_begin_68
def q_X8_begin_59 : List zEnt := zE 59 .iastore 1 :: q_X8_begin_60
def q_X8_begin_53 : List zEnt := zE 53 (.aload_n 0) 1 :: zEf 54 (.getfield 22) 3 8 7 102 (1, 32, 0) :: zE 57 (.iload_n 2) 1 :: zEk 58 (.iconst 0) 1 0 :: q_X8_begin_59
def q_X8_begin_52 : List zEnt := zE 52 .iastore 1 :: q_X8_begin_53
def q_X8_begin_46 : List zEnt := zE 46 (.aload_n 0) 1 :: zEf 47 (.getfield 18) 3 8 6 100 (1, 31, 0) :: zE 50 (.iload_n 2) 1 :: zEk 51 (.iconst 0) 1 0 :: q_X8_begin_52
def q_X8_begin_43 : List zEnt := zEa 43 (.if_icmp .ge 53) 3 96 :: q_X8_begin_46
def q_X8_begin_40 : List zEnt := zE 40 (.iload_n 2) 1 :: zEk 41 (.bipush 12) 2 12 :: q_X8_begin_43
def q_X8_begin_100 : List zEnt := zE 100 .return_ 1 :: []
def q_X8_begin_97 : List zEnt := zEc 97 (.invokevirtual 68) 3 71 1 24 1 :: q_X8_begin_100
def q_X8_begin_96 : List zEnt := zE 96 (.aload_n 0) 1 :: q_X8_begin_97
def b_X8_begin : List (Nat × List zEnt) := [(0, q_X8_begin_0), (40, q_X8_begin_40), (96, q_X8_begin_96)]
theorem bk_X8_begin : zchB 70 b_X8_begin = true := by decide +kernel
noncomputable def cc_X8_begin {ρ : Type} : Nat → zH → List zAV → (zH → zAV → Option ρ) → Option ρ := fun n σ av q => if n = 1 then g_X0_copyFrom σ av q else if n = 74 then g_X8_upBits σ av q else if n = 4 then g_X0_menOf σ av q else if n = 71 then g_X8_beginCounts σ av q else none
theorem cs_X8_begin {ρ : Type} {X : zX} (hX : zHX X) : zCS X (cc_X8_begin (ρ := ρ)) := by
  intro n σ av q r h hv
  unfold cc_X8_begin at h
  by_cases e_X0_copyFrom : n = 1
  · rw [if_pos e_X0_copyFrom] at h
    subst e_X0_copyFrom
    exact c_X0_copyFrom hX h hv
  rw [if_neg e_X0_copyFrom] at h
  by_cases e_X8_upBits : n = 74
  · rw [if_pos e_X8_upBits] at h
    subst e_X8_upBits
    exact c_X8_upBits hX h hv
  rw [if_neg e_X8_upBits] at h
  by_cases e_X0_menOf : n = 4
  · rw [if_pos e_X0_menOf] at h
    subst e_X0_menOf
    exact c_X0_menOf hX h hv
  rw [if_neg e_X0_menOf] at h
  by_cases e_X8_beginCounts : n = 71
  · rw [if_pos e_X8_beginCounts] at h
    subst e_X8_beginCounts
    exact c_X8_beginCounts hX h hv
  rw [if_neg e_X8_beginCounts] at h
  cases h
theorem cl_X8_begin_X0_copyFrom {ρ : Type} (σ : zH) (av : List zAV) (q : zH → zAV → Option ρ) : cc_X8_begin 1 σ av q = g_X0_copyFrom σ av q := rfl
theorem cl_X8_begin_X8_upBits {ρ : Type} (σ : zH) (av : List zAV) (q : zH → zAV → Option ρ) : cc_X8_begin 74 σ av q = g_X8_upBits σ av q := rfl
theorem cl_X8_begin_X0_menOf {ρ : Type} (σ : zH) (av : List zAV) (q : zH → zAV → Option ρ) : cc_X8_begin 4 σ av q = g_X0_menOf σ av q := rfl
theorem cl_X8_begin_X8_beginCounts {ρ : Type} (σ : zH) (av : List zAV) (q : zH → zAV → Option ρ) : cc_X8_begin 71 σ av q = g_X8_beginCounts σ av q := rfl
theorem hy_X8_begin {ρ : Type} {X : zX} (hX : zHX X) : zHY X 70 (cc_X8_begin (ρ := ρ)) := zHX.hY hX (cs_X8_begin hX) (zmok_all 70 (by decide))
def gl_X8_begin_40 {ρ : Type} (f : zH → Nat → Int32 → Option ρ) (σ : zH) (L st : List zAV) : Option ρ := match L, st with
  | [.inr (.inr (.inl (8, i0))), _, .inl x2], [] => f σ i0 x2
  | _, _ => none
theorem glr_X8_begin_40 {ρ : Type} (f : zH → Nat → Int32 → Option ρ) (σ : zH) (i0 : Nat) (x2 : Int32) (y1 : zAV) : gl_X8_begin_40 f σ [vR 8 i0, y1, vI x2] [] = f σ i0 x2 := rfl
theorem t_X8_begin_0 {G : Nat → zH → List zAV → List zAV → Option zH} (es : List zEnt) (σ : zH) (i0 : Nat) (i1 : Nat) (y2 : zAV)  : zev cc_X8_begin G 9 krV (zE 0 (.aload_n 0) 1 :: zEf 1 (.getfield 12) 3 8 0 84 (1, 0, 1) :: zE 4 (.aload_n 1) 1 :: es) σ [vR 8 i0, vR 0 i1, y2] [] = zev cc_X8_begin G 9 krV es σ [vR 8 i0, vR 0 i1, y2] [vR 0 i1, vR 0 (i0 + 1)] := rfl
theorem t_X8_begin_8 {G : Nat → zH → List zAV → List zAV → Option zH} (es : List zEnt) (σ : zH) (i0 : Nat) (y1 : zAV) (y2 : zAV) (w9 : Int32) : zev cc_X8_begin G 9 krV (zE 8 (.aload_n 0) 1 :: zEk 9 (.iconst 0) 1 w9 :: es) σ [vR 8 i0, y1, y2] [] = zev cc_X8_begin G 9 krV es σ [vR 8 i0, y1, y2] [vI w9, vR 8 i0] := rfl
theorem t_X8_begin_13 {G : Nat → zH → List zAV → List zAV → Option zH} (es : List zEnt) (σ : zH) (i0 : Nat) (y1 : zAV) (y2 : zAV) (w14 : Int32) : zev cc_X8_begin G 9 krV (zE 13 (.aload_n 0) 1 :: zEk 14 (.iconst 0) 1 w14 :: es) σ [vR 8 i0, y1, y2] [] = zev cc_X8_begin G 9 krV es σ [vR 8 i0, y1, y2] [vI w14, vR 8 i0] := rfl
theorem t_X8_begin_18 {G : Nat → zH → List zAV → List zAV → Option zH} (es : List zEnt) (σ : zH) (i0 : Nat) (y1 : zAV) (y2 : zAV) (w19 : Int32) : zev cc_X8_begin G 9 krV (zE 18 (.aload_n 0) 1 :: zEk 19 (.iconst 0) 1 w19 :: es) σ [vR 8 i0, y1, y2] [] = zev cc_X8_begin G 9 krV es σ [vR 8 i0, y1, y2] [vI w19, vR 8 i0] := rfl
theorem t_X8_begin_23 {G : Nat → zH → List zAV → List zAV → Option zH} (es : List zEnt) (σ : zH) (i0 : Nat) (y1 : zAV) (y2 : zAV)  : zev cc_X8_begin G 9 krV (zE 23 (.aload_n 0) 1 :: zE 24 (.aload_n 0) 1 :: zEf 25 (.getfield 12) 3 8 0 84 (1, 0, 1) :: zE 28 (.aload_n 0) 1 :: es) σ [vR 8 i0, y1, y2] [] = zev cc_X8_begin G 9 krV es σ [vR 8 i0, y1, y2] [vR 8 i0, vR 0 (i0 + 1), vR 8 i0] := rfl
theorem t_X8_begin_38 {G : Nat → zH → List zAV → List zAV → Option zH} (es : List zEnt) (σ : zH) (i0 : Nat) (y1 : zAV) (y2 : zAV) (w38 : Int32) : zev cc_X8_begin G 9 krV (zEk 38 (.iconst 0) 1 w38 :: zE 39 (.istore_n 2) 1 :: es) σ [vR 8 i0, y1, y2] [] = zev cc_X8_begin G 9 krV es σ [vR 8 i0, (zkp y1), vI w38] [] := rfl
theorem t_X8_begin_40 {G : Nat → zH → List zAV → List zAV → Option zH} (es : List zEnt) (σ : zH) (i0 : Nat) (x2 : Int32) (y1 : zAV) (w41 : Int32) : zev cc_X8_begin G 9 krV (zE 40 (.iload_n 2) 1 :: zEk 41 (.bipush 12) 2 w41 :: es) σ [vR 8 i0, y1, vI x2] [] = zev cc_X8_begin G 9 krV es σ [vR 8 i0, y1, vI x2] [vI w41, vI x2] := rfl
theorem t_X8_begin_46 {G : Nat → zH → List zAV → List zAV → Option zH} (es : List zEnt) (σ : zH) (i0 : Nat) (x2 : Int32) (y1 : zAV) (w51 : Int32) : zev cc_X8_begin G 9 krV (zE 46 (.aload_n 0) 1 :: zEf 47 (.getfield 18) 3 8 6 100 (1, 31, 0) :: zE 50 (.iload_n 2) 1 :: zEk 51 (.iconst 0) 1 w51 :: es) σ [vR 8 i0, y1, vI x2] [] = zev cc_X8_begin G 9 krV es σ [vR 8 i0, y1, vI x2] [vI w51, vI x2, vR 31 (i0 + 0)] := rfl
theorem t_X8_begin_53 {G : Nat → zH → List zAV → List zAV → Option zH} (es : List zEnt) (σ : zH) (i0 : Nat) (x2 : Int32) (y1 : zAV) (w58 : Int32) : zev cc_X8_begin G 9 krV (zE 53 (.aload_n 0) 1 :: zEf 54 (.getfield 22) 3 8 7 102 (1, 32, 0) :: zE 57 (.iload_n 2) 1 :: zEk 58 (.iconst 0) 1 w58 :: es) σ [vR 8 i0, y1, vI x2] [] = zev cc_X8_begin G 9 krV es σ [vR 8 i0, y1, vI x2] [vI w58, vI x2, vR 32 (i0 + 0)] := rfl
theorem t_X8_begin_60 {G : Nat → zH → List zAV → List zAV → Option zH} (es : List zEnt) (σ : zH) (i0 : Nat) (x2 : Int32) (y1 : zAV) (w65 : Int32) : zev cc_X8_begin G 9 krV (zE 60 (.aload_n 0) 1 :: zEf 61 (.getfield 25) 3 8 8 104 (1, 33, 0) :: zE 64 (.iload_n 2) 1 :: zEk 65 (.sipush (-1000)) 3 w65 :: es) σ [vR 8 i0, y1, vI x2] [] = zev cc_X8_begin G 9 krV es σ [vR 8 i0, y1, vI x2] [vI w65, vI x2, vR 33 (i0 + 0)] := rfl
theorem t_X8_begin_69 {G : Nat → zH → List zAV → List zAV → Option zH} (es : List zEnt) (σ : zH) (i0 : Nat) (x2 : Int32) (y1 : zAV) (w74 : Int32) : zev cc_X8_begin G 9 krV (zE 69 (.aload_n 0) 1 :: zEf 70 (.getfield 28) 3 8 9 105 (1, 34, 0) :: zE 73 (.iload_n 2) 1 :: zEk 74 (.iconst 0) 1 w74 :: es) σ [vR 8 i0, y1, vI x2] [] = zev cc_X8_begin G 9 krV es σ [vR 8 i0, y1, vI x2] [vI w74, vI x2, vR 34 (i0 + 0)] := rfl
theorem t_X8_begin_76 {G : Nat → zH → List zAV → List zAV → Option zH} (es : List zEnt) (σ : zH) (i0 : Nat) (x2 : Int32) (y1 : zAV) (w81 : Int32) : zev cc_X8_begin G 9 krV (zE 76 (.aload_n 0) 1 :: zEf 77 (.getfield 31) 3 8 10 107 (1, 35, 0) :: zE 80 (.iload_n 2) 1 :: zEk 81 (.iconst 0) 1 w81 :: es) σ [vR 8 i0, y1, vI x2] [] = zev cc_X8_begin G 9 krV es σ [vR 8 i0, y1, vI x2] [vI w81, vI x2, vR 35 (i0 + 0)] := rfl
theorem t_X8_begin_83 {G : Nat → zH → List zAV → List zAV → Option zH} (es : List zEnt) (σ : zH) (i0 : Nat) (x2 : Int32) (y1 : zAV) (w88 : Int32) : zev cc_X8_begin G 9 krV (zE 83 (.aload_n 0) 1 :: zEf 84 (.getfield 34) 3 8 11 109 (1, 36, 0) :: zE 87 (.iload_n 2) 1 :: zEk 88 (.iconst (-1)) 1 w88 :: es) σ [vR 8 i0, y1, vI x2] [] = zev cc_X8_begin G 9 krV es σ [vR 8 i0, y1, vI x2] [vI w88, vI x2, vR 36 (i0 + 0)] := rfl
theorem t_X8_begin_90 {G : Nat → zH → List zAV → List zAV → Option zH} (es : List zEnt) (σ : zH) (i0 : Nat) (x2 : Int32) (y1 : zAV) (w90 : Int32) : zev cc_X8_begin G 9 krV (zEk 90 (.iinc 2 1) 3 w90 :: es) σ [vR 8 i0, y1, vI x2] [] = zev cc_X8_begin G 9 krV es σ [vR 8 i0, (zkp y1), vI (x2 + w90)] [] := rfl
theorem t_X8_begin_96 {G : Nat → zH → List zAV → List zAV → Option zH} (es : List zEnt) (σ : zH) (i0 : Nat) (y1 : zAV) (y2 : zAV)  : zev cc_X8_begin G 9 krV (zE 96 (.aload_n 0) 1 :: es) σ [vR 8 i0, y1, y2] [] = zev cc_X8_begin G 9 krV es σ [vR 8 i0, y1, y2] [vR 8 i0] := rfl
noncomputable def k_X8_begin_40  : Nat → zH → Nat → Int32 → Option zH
  | 0, _, _, _ => none
  | n + 1, σ, i0, x2 =>
    if x2 < (12 : Int32) then
      ix x2 12 fun j13 =>
      zlet (uI σ 31 (i0 + 0) j13 (0 : Int32)) fun σ2 =>
      ix x2 12 fun j12 =>
      zlet (uI σ2 32 (i0 + 0) j12 (0 : Int32)) fun σ3 =>
      ix x2 12 fun j11 =>
      zlet (uI σ3 33 (i0 + 0) j11 (-1000 : Int32)) fun σ4 =>
      ix x2 12 fun j10 =>
      zlet (uI σ4 34 (i0 + 0) j10 (0 : Int32)) fun σ5 =>
      ix x2 12 fun j9 =>
      zlet (uI σ5 35 (i0 + 0) j9 (0 : Int32)) fun σ6 =>
      ix x2 12 fun j8 =>
      zlet (uI σ6 36 (i0 + 0) j8 (-1 : Int32)) fun σ7 =>
      (k_X8_begin_40 n) σ7 i0 (x2 + (1 : Int32))
    else
      (d_X8_beginCounts σ i0).bind fun σ1 =>
      some σ1
theorem e_X8_begin_40  (n : Nat) (σ : zH) (i0 : Nat) (x2 : Int32) (y1 : zAV) : k_X8_begin_40 (n + 1) σ i0 x2 = zin cc_X8_begin (fun t => if t = 40 then some (gl_X8_begin_40 (k_X8_begin_40 n)) else none) 9 krV b_X8_begin 40 σ [vR 8 i0, y1, vI x2] [] := by
  rw [k_X8_begin_40]
  refine Eq.symm ((zin_b (es := q_X8_begin_40) rfl).trans ?_)
  refine (t_X8_begin_40 _ _ _ _ _ _).trans ?_
  refine x_icmp.trans (pif_ge ?_ ?_)
  · refine (zrun_b (es := q_X8_begin_96) rfl rfl).trans ?_
    refine (t_X8_begin_96 _ _ _ _ _).trans ?_
    refine (x_callV rfl rfl rfl rfl).trans ((cl_X8_begin_X8_beginCounts _ _ _).trans ((gr_X8_beginCounts _ _ _).trans (pbd fun _ => ?_)))
    exact x_vret
  · refine (t_X8_begin_46 _ _ _ _ _ _).trans ?_
    refine (x_iast (N := 12) rfl rfl).trans (pix fun _ => plt fun _ => ?_)
    refine (t_X8_begin_53 _ _ _ _ _ _).trans ?_
    refine (x_iast (N := 12) rfl rfl).trans (pix fun _ => plt fun _ => ?_)
    refine (t_X8_begin_60 _ _ _ _ _ _).trans ?_
    refine (x_iast (N := 12) rfl rfl).trans (pix fun _ => plt fun _ => ?_)
    refine (t_X8_begin_69 _ _ _ _ _ _).trans ?_
    refine (x_iast (N := 12) rfl rfl).trans (pix fun _ => plt fun _ => ?_)
    refine (t_X8_begin_76 _ _ _ _ _ _).trans ?_
    refine (x_iast (N := 12) rfl rfl).trans (pix fun _ => plt fun _ => ?_)
    refine (t_X8_begin_83 _ _ _ _ _ _).trans ?_
    refine (x_iast (N := 12) rfl rfl).trans (pix fun _ => plt fun _ => ?_)
    refine (t_X8_begin_90 _ _ _ _ _ _).trans ?_
    refine x_goto.trans ?_
    exact (zrun_c rfl).trans (glr_X8_begin_40 _ _ _ _ _)
theorem s_X8_begin_40 {X : zX} (hX : zHX X)   : ∀ n σ L st r, gl_X8_begin_40 (k_X8_begin_40 n) σ L st = some r → zGW X 70 krV 40 σ L st r := by
  intro n
  induction n with
  | zero =>
    intro σ L st r h
    unfold gl_X8_begin_40 at h
    split at h <;> cases h
  | succ n ih =>
    intro σ L st r h
    unfold gl_X8_begin_40 at h
    split at h
    · exact zin_ok (hy_X8_begin hX) bk_X8_begin (fun t f hf => by
      by_cases e40 : t = 40
      · rw [if_pos e40] at hf; subst e40; cases hf; exact ih
      rw [if_neg e40] at hf
      cases hf) ((e_X8_begin_40 _ _ _ _ _).symm.trans h)
    · cases h
noncomputable def d_X8_begin (σ : zH) (ia0 : Nat) (ia1 : Nat) : Option zH :=
  (d_X0_copyFrom σ (ia0 + 1) ia1).bind fun σ1 =>
  zlet (uI σ1 8 ia0 1 (0 : Int32)) fun σ2 =>
  zlet (uI σ2 8 ia0 3 (0 : Int32)) fun σ3 =>
  zlet (uI σ3 8 ia0 4 (0 : Int32)) fun σ4 =>
  (d_X8_upBits σ4 ia0).bind fun p5 =>
  (d_X0_menOf p5.1 (ia0 + 1) p5.2).bind fun p6 =>
  zlet (uI p6.1 8 ia0 5 p6.2) fun σ7 =>
  (k_X8_begin_40 zN) σ7 ia0 (0 : Int32)
theorem e_X8_begin (σ : zH) (ia0 : Nat) (ia1 : Nat) : d_X8_begin σ ia0 ia1 = zin cc_X8_begin (fun t => if t = 40 then some (gl_X8_begin_40 (k_X8_begin_40 zN)) else none) 9 krV b_X8_begin 0 σ [vR 8 ia0, vR 0 ia1, vU] [] := by
  unfold d_X8_begin
  refine Eq.symm ((zin_b (es := q_X8_begin_0) rfl).trans ?_)
  refine (t_X8_begin_0 _ _ _ _ _).trans ?_
  refine (x_callV rfl rfl rfl rfl).trans ((cl_X8_begin_X0_copyFrom _ _ _).trans ((gr_X0_copyFrom _ _ _ _).trans (pbd fun _ => ?_)))
  refine (t_X8_begin_8 _ _ _ _ _ _).trans ?_
  refine x_pf0.trans (plt fun _ => ?_)
  refine (t_X8_begin_13 _ _ _ _ _ _).trans ?_
  refine x_pf0.trans (plt fun _ => ?_)
  refine (t_X8_begin_18 _ _ _ _ _ _).trans ?_
  refine x_pf0.trans (plt fun _ => ?_)
  refine (t_X8_begin_23 _ _ _ _ _).trans ?_
  refine (x_callV rfl rfl rfl rfl).trans ((cl_X8_begin_X8_upBits _ _ _).trans ((gr_X8_upBits _ _ _).trans (pbd fun _ => ?_)))
  refine (x_callV rfl rfl rfl rfl).trans ((cl_X8_begin_X0_menOf _ _ _).trans ((gr_X0_menOf _ _ _ _).trans (pbd fun _ => ?_)))
  refine x_pf0.trans (plt fun _ => ?_)
  refine (t_X8_begin_38 _ _ _ _ _ _).trans ?_
  refine x_cut.trans ?_
  exact (zrun_c rfl).trans (glr_X8_begin_40 _ _ _ _ _)
noncomputable def g_X8_begin {ρ : Type} (σ : zH) (av : List zAV) (q : zH → zAV → Option ρ) : Option ρ := match av with
  | [.inr (.inr (.inl (8, ia0))), .inr (.inr (.inl (0, ia1)))] => (d_X8_begin σ ia0 ia1).bind fun σ => q σ vU
  | _ => none
theorem gr_X8_begin {ρ : Type} (σ : zH) (ia0 : Nat) (ia1 : Nat) (q : zH → zAV → Option ρ) : g_X8_begin σ [vR 8 ia0, vR 0 ia1] q = (d_X8_begin σ ia0 ia1).bind fun σ => q σ vU := rfl
theorem c_X8_begin {ρ : Type} {X : zX} (hX : zHX X) {σ : zH} {av : List zAV} {q : zH → zAV → Option ρ} {r : ρ} (h : g_X8_begin σ av q = some r) (hv : ∀ a ∈ av, zval X a) : zcon X 70 σ av q r := by
  unfold g_X8_begin at h
  split at h
  · exact zcon_V (n := 70) (ml := 3) (rc := 9) (st := 0) (kd := 8) (np := 1) (by decide +kernel) rfl ⟨_, _, rfl, rfl⟩ (Nat.le_of_ble_eq_true rfl) hv h (fun y h1 => (zin_ok (hy_X8_begin hX) bk_X8_begin (fun t f hf => by
      by_cases e40 : t = 40
      · rw [if_pos e40] at hf; subst e40; cases hf; exact ((fun σ L st r h => s_X8_begin_40 hX  zN σ L st r h))
      rw [if_neg e40] at hf
      cases hf) ((e_X8_begin _ _ _).symm.trans h1)))
  · cases h
/-! SleepWaves$Tape.add(I)V -/
def q_X9_add_0 : List zEnt := zEk 0 (.bipush 24) 2 24 :: zE 2 (.istore_n 2) 1 :: [zE 3 .nop 0]
def q_X9_add_46 : List zEnt := zEa 46 (.goto (-43)) 3 3 :: []
def q_X9_add_43 : List zEnt := zEk 43 (.iinc 2 (-8)) 3 (-8) :: q_X9_add_46
def q_X9_add_40 : List zEnt := zEf 40 (.putfield 13) 3 9 1 3 (0, 0, 0) :: q_X9_add_43
def q_X9_add_33 : List zEnt := zE 33 (.aload_n 0) 1 :: zE 34 .dup 1 :: zEf 35 (.getfield 13) 3 9 1 3 (0, 0, 0) :: zEk 38 (.iconst 1) 1 1 :: zE 39 .iadd 1 :: q_X9_add_40
def q_X9_add_32 : List zEnt := zE 32 .iastore 1 :: q_X9_add_33
def q_X9_add_17 : List zEnt := zE 17 (.aload_n 0) 1 :: zEf 18 (.getfield 9) 3 9 0 0 (2, 37, 0) :: zE 21 (.aload_n 0) 1 :: zEf 22 (.getfield 13) 3 9 1 3 (0, 0, 0) :: zE 25 (.iload_n 1) 1 :: zE 26 (.iload_n 2) 1 :: zE 27 .iushr 1 :: zEk 28 (.sipush 255) 3 255 :: zE 31 .iand 1 :: q_X9_add_32
def q_X9_add_14 : List zEnt := zEa 14 (.if_icmp .ge 35) 3 49 :: q_X9_add_17
def q_X9_add_7 : List zEnt := zE 7 (.aload_n 0) 1 :: zEf 8 (.getfield 13) 3 9 1 3 (0, 0, 0) :: zEk 11 (.sipush 400) 3 400 :: q_X9_add_14
def q_X9_add_4 : List zEnt := zEa 4 (.ifCond .lt 45) 3 49 :: q_X9_add_7
def q_X9_add_3 : List zEnt := zE 3 (.iload_n 2) 1 :: q_X9_add_4
def q_X9_add_49 : List zEnt := zE 49 .return_ 1 :: []
def b_X9_add : List (Nat × List zEnt) := [(0, q_X9_add_0), (3, q_X9_add_3), (49, q_X9_add_49)]
theorem bk_X9_add : zchB 90 b_X9_add = true := by decide +kernel
theorem hy_X9_add {ρ : Type} {X : zX} (hX : zHX X) : zHY X 90 (zc0 (ρ := ρ)) := zHX.hY hX (zc0_ok X) (zmok_all 90 (by decide))
def gl_X9_add_3 {ρ : Type} (f : zH → Int32 → Int32 → Option ρ) (σ : zH) (L st : List zAV) : Option ρ := match L, st with
  | [.inr (.inr (.inl (9, 0))), .inl x1, .inl x2], [] => f σ x1 x2
  | _, _ => none
theorem glr_X9_add_3 {ρ : Type} (f : zH → Int32 → Int32 → Option ρ) (σ : zH) (x1 : Int32) (x2 : Int32)  : gl_X9_add_3 f σ [vR 9 0, vI x1, vI x2] [] = f σ x1 x2 := rfl
theorem t_X9_add_0 {G : Nat → zH → List zAV → List zAV → Option zH} (es : List zEnt) (σ : zH) (x1 : Int32) (y2 : zAV) (w0 : Int32) : zev zc0 G 9 krV (zEk 0 (.bipush 24) 2 w0 :: zE 2 (.istore_n 2) 1 :: es) σ [vR 9 0, vI x1, y2] [] = zev zc0 G 9 krV es σ [vR 9 0, vI x1, vI w0] [] := rfl
theorem t_X9_add_3 {G : Nat → zH → List zAV → List zAV → Option zH} (es : List zEnt) (σ : zH) (x1 : Int32) (x2 : Int32)   : zev zc0 G 9 krV (zE 3 (.iload_n 2) 1 :: es) σ [vR 9 0, vI x1, vI x2] [] = zev zc0 G 9 krV es σ [vR 9 0, vI x1, vI x2] [vI x2] := rfl
theorem t_X9_add_7 {G : Nat → zH → List zAV → List zAV → Option zH} (es : List zEnt) (σ : zH) (x1 : Int32) (x2 : Int32)  (w11 : Int32) : zev zc0 G 9 krV (zE 7 (.aload_n 0) 1 :: zEf 8 (.getfield 13) 3 9 1 3 (0, 0, 0) :: zEk 11 (.sipush 400) 3 w11 :: es) σ [vR 9 0, vI x1, vI x2] [] = zev zc0 G 9 krV es σ [vR 9 0, vI x1, vI x2] [vI w11, vI (σ.1 9 0 1)] := rfl
theorem t_X9_add_17 {G : Nat → zH → List zAV → List zAV → Option zH} (es : List zEnt) (σ : zH) (x1 : Int32) (x2 : Int32)  (w28 : Int32) : zev zc0 G 9 krV (zE 17 (.aload_n 0) 1 :: zEf 18 (.getfield 9) 3 9 0 0 (2, 37, 0) :: zE 21 (.aload_n 0) 1 :: zEf 22 (.getfield 13) 3 9 1 3 (0, 0, 0) :: zE 25 (.iload_n 1) 1 :: zE 26 (.iload_n 2) 1 :: zE 27 .iushr 1 :: zEk 28 (.sipush 255) 3 w28 :: zE 31 .iand 1 :: es) σ [vR 9 0, vI x1, vI x2] [] = zev zc0 G 9 krV es σ [vR 9 0, vI x1, vI x2] [vI ((x1.toUInt32 >>> (x2.toUInt32 &&& Int32.toUInt32 31)).toInt32 &&& w28), vI (σ.1 9 0 1), vR 37 0] := rfl
theorem t_X9_add_33 {G : Nat → zH → List zAV → List zAV → Option zH} (es : List zEnt) (σ : zH) (x1 : Int32) (x2 : Int32)  (w38 : Int32) : zev zc0 G 9 krV (zE 33 (.aload_n 0) 1 :: zE 34 .dup 1 :: zEf 35 (.getfield 13) 3 9 1 3 (0, 0, 0) :: zEk 38 (.iconst 1) 1 w38 :: zE 39 .iadd 1 :: es) σ [vR 9 0, vI x1, vI x2] [] = zev zc0 G 9 krV es σ [vR 9 0, vI x1, vI x2] [vI ((σ.1 9 0 1) + w38), vR 9 0] := rfl
theorem t_X9_add_43 {G : Nat → zH → List zAV → List zAV → Option zH} (es : List zEnt) (σ : zH) (x1 : Int32) (x2 : Int32)  (w43 : Int32) : zev zc0 G 9 krV (zEk 43 (.iinc 2 (-8)) 3 w43 :: es) σ [vR 9 0, vI x1, vI x2] [] = zev zc0 G 9 krV es σ [vR 9 0, vI x1, vI (x2 + w43)] [] := rfl
noncomputable def k_X9_add_3  : Nat → zH → Int32 → Int32 → Option zH
  | 0, _, _, _ => none
  | n + 1, σ, x1, x2 =>
    if x2 < 0 then
      some σ
    else
      if (σ.1 9 0 1) < (400 : Int32) then
        ix (σ.1 9 0 1) 400 fun j3 =>
        zlet (uI σ 37 0 j3 ((x1.toUInt32 >>> (x2.toUInt32 &&& Int32.toUInt32 31)).toInt32 &&& (255 : Int32))) fun σ1 =>
        zlet (uI σ1 9 0 1 ((σ1.1 9 0 1) + (1 : Int32))) fun σ2 =>
        (k_X9_add_3 n) σ2 x1 (x2 + (-8 : Int32))
      else
        some σ
theorem e_X9_add_3  (n : Nat) (σ : zH) (x1 : Int32) (x2 : Int32)  : k_X9_add_3 (n + 1) σ x1 x2 = zin zc0 (fun t => if t = 3 then some (gl_X9_add_3 (k_X9_add_3 n)) else none) 9 krV b_X9_add 3 σ [vR 9 0, vI x1, vI x2] [] := by
  rw [k_X9_add_3]
  refine Eq.symm ((zin_b (es := q_X9_add_3) rfl).trans ?_)
  refine (t_X9_add_3 _ _ _ _).trans ?_
  refine x_if.trans (pif_lt ?_ ?_)
  · refine (zrun_b (es := q_X9_add_49) rfl rfl).trans ?_
    exact x_vret
  · refine (t_X9_add_7 _ _ _ _ _).trans ?_
    refine x_icmp.trans (pif_ge ?_ ?_)
    · refine (zrun_b (es := q_X9_add_49) rfl rfl).trans ?_
      exact x_vret
    · refine (t_X9_add_17 _ _ _ _ _).trans ?_
      refine (x_iast (N := 400) rfl rfl).trans (pix fun _ => plt fun _ => ?_)
      refine (t_X9_add_33 _ _ _ _ _).trans ?_
      refine x_pf0.trans (plt fun _ => ?_)
      refine (t_X9_add_43 _ _ _ _ _).trans ?_
      refine x_goto.trans ?_
      exact (zrun_c rfl).trans (glr_X9_add_3 _ _ _ _)
theorem s_X9_add_3 {X : zX} (hX : zHX X)   : ∀ n σ L st r, gl_X9_add_3 (k_X9_add_3 n) σ L st = some r → zGW X 90 krV 3 σ L st r := by
  intro n
  induction n with
  | zero =>
    intro σ L st r h
    unfold gl_X9_add_3 at h
    split at h <;> cases h
  | succ n ih =>
    intro σ L st r h
    unfold gl_X9_add_3 at h
    split at h
    · exact zin_ok (hy_X9_add hX) bk_X9_add (fun t f hf => by
      by_cases e3 : t = 3
      · rw [if_pos e3] at hf; subst e3; cases hf; exact ih
      rw [if_neg e3] at hf
      cases hf) ((e_X9_add_3 _ _ _ _).symm.trans h)
    · cases h
noncomputable def d_X9_add (σ : zH) (xa1 : Int32) : Option zH :=
  (k_X9_add_3 zN) σ xa1 (24 : Int32)
theorem e_X9_add (σ : zH) (xa1 : Int32) : d_X9_add σ xa1 = zin zc0 (fun t => if t = 3 then some (gl_X9_add_3 (k_X9_add_3 zN)) else none) 9 krV b_X9_add 0 σ [vR 9 0, vI xa1, vU] [] := by
  unfold d_X9_add
  refine Eq.symm ((zin_b (es := q_X9_add_0) rfl).trans ?_)
  refine (t_X9_add_0 _ _ _ _ _).trans ?_
  refine x_cut.trans ?_
  exact (zrun_c rfl).trans (glr_X9_add_3 _ _ _ _)
noncomputable def g_X9_add {ρ : Type} (σ : zH) (av : List zAV) (q : zH → zAV → Option ρ) : Option ρ := match av with
  | [.inr (.inr (.inl (9, 0))), .inl xa1] => (d_X9_add σ xa1).bind fun σ => q σ vU
  | _ => none
theorem gr_X9_add {ρ : Type} (σ : zH) (xa1 : Int32) (q : zH → zAV → Option ρ) : g_X9_add σ [vR 9 0, vI xa1] q = (d_X9_add σ xa1).bind fun σ => q σ vU := rfl
theorem c_X9_add {ρ : Type} {X : zX} (hX : zHX X) {σ : zH} {av : List zAV} {q : zH → zAV → Option ρ} {r : ρ} (h : g_X9_add σ av q = some r) (hv : ∀ a ∈ av, zval X a) : zcon X 90 σ av q r := by
  unfold g_X9_add at h
  split at h
  · exact zcon_V (n := 90) (ml := 3) (rc := 9) (st := 0) (kd := 9) (np := 1) (by decide +kernel) rfl ⟨_, _, rfl, rfl⟩ (Nat.le_of_ble_eq_true rfl) hv h (fun y h1 => (zin_ok (hy_X9_add hX) bk_X9_add (fun t f hf => by
      by_cases e3 : t = 3
      · rw [if_pos e3] at hf; subst e3; cases hf; exact ((fun σ L st r h => s_X9_add_3 hX  zN σ L st r h))
      rw [if_neg e3] at hf
      cases hf) ((e_X9_add _ _).symm.trans h1)))
  · cases h
/-! SleepWaves.feed(IIIII)I -/
def q_X10_feed_14 : List zEnt := zE 14 .ireturn 1 :: []
def q_X10_feed_13 : List zEnt := zEk 13 (.iconst (-1)) 1 (-1) :: q_X10_feed_14
def q_X10_feed_10 : List zEnt := zEa 10 (.if_icmp .le 5) 3 15 :: q_X10_feed_13
def q_X10_feed_0 : List zEnt := zE 0 (.aload_n 0) 1 :: zEf 1 (.getfield 10) 3 10 0 136 (2, 9, 0) :: zEf 4 (.getfield 93) 3 9 1 2 (0, 0, 0) :: zEk 7 (.sipush 380) 3 380 :: q_X10_feed_10
def q_X10_feed_64 : List zEnt := zE 64 .ireturn 1 :: []
def q_X10_feed_57 : List zEnt := zE 57 (.aload_n 0) 1 :: zEf 58 (.getfield 10) 3 10 0 136 (2, 9, 0) :: zEf 61 (.getfield 93) 3 9 1 2 (0, 0, 0) :: q_X10_feed_64
def q_X10_feed_54 : List zEnt := zEc 54 (.invokevirtual 97) 3 90 2 0 1 :: q_X10_feed_57
def q_X10_feed_48 : List zEnt := zE 48 (.aload_n 0) 1 :: zEf 49 (.getfield 10) 3 10 0 136 (2, 9, 0) :: zE 52 (.iload 5) 2 :: q_X10_feed_54
def q_X10_feed_45 : List zEnt := zEc 45 (.invokevirtual 97) 3 90 2 0 1 :: q_X10_feed_48
def q_X10_feed_39 : List zEnt := zE 39 (.aload_n 0) 1 :: zEf 40 (.getfield 10) 3 10 0 136 (2, 9, 0) :: zE 43 (.iload 4) 2 :: q_X10_feed_45
def q_X10_feed_36 : List zEnt := zEc 36 (.invokevirtual 97) 3 90 2 0 1 :: q_X10_feed_39
def q_X10_feed_31 : List zEnt := zE 31 (.aload_n 0) 1 :: zEf 32 (.getfield 10) 3 10 0 136 (2, 9, 0) :: zE 35 (.iload_n 3) 1 :: q_X10_feed_36
def q_X10_feed_28 : List zEnt := zEc 28 (.invokevirtual 97) 3 90 2 0 1 :: q_X10_feed_31
def q_X10_feed_23 : List zEnt := zE 23 (.aload_n 0) 1 :: zEf 24 (.getfield 10) 3 10 0 136 (2, 9, 0) :: zE 27 (.iload_n 2) 1 :: q_X10_feed_28
def q_X10_feed_20 : List zEnt := zEc 20 (.invokevirtual 97) 3 90 2 0 1 :: q_X10_feed_23
def q_X10_feed_15 : List zEnt := zE 15 (.aload_n 0) 1 :: zEf 16 (.getfield 10) 3 10 0 136 (2, 9, 0) :: zE 19 (.iload_n 1) 1 :: q_X10_feed_20
def b_X10_feed : List (Nat × List zEnt) := [(0, q_X10_feed_0), (15, q_X10_feed_15)]
theorem bk_X10_feed : zchB 91 b_X10_feed = true := by decide +kernel
noncomputable def cc_X10_feed {ρ : Type} : Nat → zH → List zAV → (zH → zAV → Option ρ) → Option ρ := fun n σ av q => if n = 90 then g_X9_add σ av q else none
theorem cs_X10_feed {ρ : Type} {X : zX} (hX : zHX X) : zCS X (cc_X10_feed (ρ := ρ)) := by
  intro n σ av q r h hv
  unfold cc_X10_feed at h
  by_cases e_X9_add : n = 90
  · rw [if_pos e_X9_add] at h
    subst e_X9_add
    exact c_X9_add hX h hv
  rw [if_neg e_X9_add] at h
  cases h
theorem cl_X10_feed_X9_add {ρ : Type} (σ : zH) (av : List zAV) (q : zH → zAV → Option ρ) : cc_X10_feed 90 σ av q = g_X9_add σ av q := rfl
theorem hy_X10_feed {ρ : Type} {X : zX} (hX : zHX X) : zHY X 91 (cc_X10_feed (ρ := ρ)) := zHX.hY hX (cs_X10_feed hX) (zmok_all 91 (by decide))
theorem t_X10_feed_0 {G : Nat → zH → List zAV → List zAV → Option (zH × Int32)} (es : List zEnt) (σ : zH) (x1 : Int32) (x2 : Int32) (x3 : Int32) (x4 : Int32) (x5 : Int32)  (w7 : Int32) : zev cc_X10_feed G 0 krI (zE 0 (.aload_n 0) 1 :: zEf 1 (.getfield 10) 3 10 0 136 (2, 9, 0) :: zEf 4 (.getfield 93) 3 9 1 2 (0, 0, 0) :: zEk 7 (.sipush 380) 3 w7 :: es) σ [vR 10 0, vI x1, vI x2, vI x3, vI x4, vI x5] [] = zev cc_X10_feed G 0 krI es σ [vR 10 0, vI x1, vI x2, vI x3, vI x4, vI x5] [vI w7, vI (σ.1 9 0 1)] := rfl
theorem t_X10_feed_13 {G : Nat → zH → List zAV → List zAV → Option (zH × Int32)} (es : List zEnt) (σ : zH)  (y0 : zAV) (y1 : zAV) (y2 : zAV) (y3 : zAV) (y4 : zAV) (y5 : zAV) (w13 : Int32) : zev cc_X10_feed G 0 krI (zEk 13 (.iconst (-1)) 1 w13 :: es) σ [y0, y1, y2, y3, y4, y5] [] = zev cc_X10_feed G 0 krI es σ [y0, y1, y2, y3, y4, y5] [vI w13] := rfl
theorem t_X10_feed_15 {G : Nat → zH → List zAV → List zAV → Option (zH × Int32)} (es : List zEnt) (σ : zH) (x1 : Int32) (x2 : Int32) (x3 : Int32) (x4 : Int32) (x5 : Int32)   : zev cc_X10_feed G 0 krI (zE 15 (.aload_n 0) 1 :: zEf 16 (.getfield 10) 3 10 0 136 (2, 9, 0) :: zE 19 (.iload_n 1) 1 :: es) σ [vR 10 0, vI x1, vI x2, vI x3, vI x4, vI x5] [] = zev cc_X10_feed G 0 krI es σ [vR 10 0, vI x1, vI x2, vI x3, vI x4, vI x5] [vI x1, vR 9 0] := rfl
theorem t_X10_feed_23 {G : Nat → zH → List zAV → List zAV → Option (zH × Int32)} (es : List zEnt) (σ : zH) (x2 : Int32) (x3 : Int32) (x4 : Int32) (x5 : Int32) (y1 : zAV)  : zev cc_X10_feed G 0 krI (zE 23 (.aload_n 0) 1 :: zEf 24 (.getfield 10) 3 10 0 136 (2, 9, 0) :: zE 27 (.iload_n 2) 1 :: es) σ [vR 10 0, y1, vI x2, vI x3, vI x4, vI x5] [] = zev cc_X10_feed G 0 krI es σ [vR 10 0, y1, vI x2, vI x3, vI x4, vI x5] [vI x2, vR 9 0] := rfl
theorem t_X10_feed_31 {G : Nat → zH → List zAV → List zAV → Option (zH × Int32)} (es : List zEnt) (σ : zH) (x3 : Int32) (x4 : Int32) (x5 : Int32) (y1 : zAV) (y2 : zAV)  : zev cc_X10_feed G 0 krI (zE 31 (.aload_n 0) 1 :: zEf 32 (.getfield 10) 3 10 0 136 (2, 9, 0) :: zE 35 (.iload_n 3) 1 :: es) σ [vR 10 0, y1, y2, vI x3, vI x4, vI x5] [] = zev cc_X10_feed G 0 krI es σ [vR 10 0, y1, y2, vI x3, vI x4, vI x5] [vI x3, vR 9 0] := rfl
theorem t_X10_feed_39 {G : Nat → zH → List zAV → List zAV → Option (zH × Int32)} (es : List zEnt) (σ : zH) (x4 : Int32) (x5 : Int32) (y1 : zAV) (y2 : zAV) (y3 : zAV)  : zev cc_X10_feed G 0 krI (zE 39 (.aload_n 0) 1 :: zEf 40 (.getfield 10) 3 10 0 136 (2, 9, 0) :: zE 43 (.iload 4) 2 :: es) σ [vR 10 0, y1, y2, y3, vI x4, vI x5] [] = zev cc_X10_feed G 0 krI es σ [vR 10 0, y1, y2, y3, vI x4, vI x5] [vI x4, vR 9 0] := rfl
theorem t_X10_feed_48 {G : Nat → zH → List zAV → List zAV → Option (zH × Int32)} (es : List zEnt) (σ : zH) (x5 : Int32) (y1 : zAV) (y2 : zAV) (y3 : zAV) (y4 : zAV)  : zev cc_X10_feed G 0 krI (zE 48 (.aload_n 0) 1 :: zEf 49 (.getfield 10) 3 10 0 136 (2, 9, 0) :: zE 52 (.iload 5) 2 :: es) σ [vR 10 0, y1, y2, y3, y4, vI x5] [] = zev cc_X10_feed G 0 krI es σ [vR 10 0, y1, y2, y3, y4, vI x5] [vI x5, vR 9 0] := rfl
theorem t_X10_feed_57 {G : Nat → zH → List zAV → List zAV → Option (zH × Int32)} (es : List zEnt) (σ : zH)  (y1 : zAV) (y2 : zAV) (y3 : zAV) (y4 : zAV) (y5 : zAV)  : zev cc_X10_feed G 0 krI (zE 57 (.aload_n 0) 1 :: zEf 58 (.getfield 10) 3 10 0 136 (2, 9, 0) :: zEf 61 (.getfield 93) 3 9 1 2 (0, 0, 0) :: es) σ [vR 10 0, y1, y2, y3, y4, y5] [] = zev cc_X10_feed G 0 krI es σ [vR 10 0, y1, y2, y3, y4, y5] [vI (σ.1 9 0 1)] := rfl
noncomputable def d_X10_feed (σ : zH) (xa1 : Int32) (xa2 : Int32) (xa3 : Int32) (xa4 : Int32) (xa5 : Int32) : Option (zH × Int32) :=
  if (380 : Int32) < (σ.1 9 0 1) then
    some (σ, (-1 : Int32))
  else
    (d_X9_add σ xa1).bind fun σ1 =>
    (d_X9_add σ1 xa2).bind fun σ2 =>
    (d_X9_add σ2 xa3).bind fun σ3 =>
    (d_X9_add σ3 xa4).bind fun σ4 =>
    (d_X9_add σ4 xa5).bind fun σ5 =>
    some (σ5, (σ5.1 9 0 1))
theorem e_X10_feed (σ : zH) (xa1 : Int32) (xa2 : Int32) (xa3 : Int32) (xa4 : Int32) (xa5 : Int32) : d_X10_feed σ xa1 xa2 xa3 xa4 xa5 = zin cc_X10_feed (fun t => none) 0 krI b_X10_feed 0 σ [vR 10 0, vI xa1, vI xa2, vI xa3, vI xa4, vI xa5] [] := by
  unfold d_X10_feed
  refine Eq.symm ((zin_b (es := q_X10_feed_0) rfl).trans ?_)
  refine (t_X10_feed_0 _ _ _ _ _ _ _ _).trans ?_
  refine x_icmp.trans (pif_le ?_ ?_)
  · refine (zrun_b (es := q_X10_feed_15) rfl rfl).trans ?_
    refine (t_X10_feed_15 _ _ _ _ _ _ _).trans ?_
    refine (x_callV rfl rfl rfl rfl).trans ((cl_X10_feed_X9_add _ _ _).trans ((gr_X9_add _ _ _).trans (pbd fun _ => ?_)))
    refine (t_X10_feed_23 _ _ _ _ _ _ _).trans ?_
    refine (x_callV rfl rfl rfl rfl).trans ((cl_X10_feed_X9_add _ _ _).trans ((gr_X9_add _ _ _).trans (pbd fun _ => ?_)))
    refine (t_X10_feed_31 _ _ _ _ _ _ _).trans ?_
    refine (x_callV rfl rfl rfl rfl).trans ((cl_X10_feed_X9_add _ _ _).trans ((gr_X9_add _ _ _).trans (pbd fun _ => ?_)))
    refine (t_X10_feed_39 _ _ _ _ _ _ _).trans ?_
    refine (x_callV rfl rfl rfl rfl).trans ((cl_X10_feed_X9_add _ _ _).trans ((gr_X9_add _ _ _).trans (pbd fun _ => ?_)))
    refine (t_X10_feed_48 _ _ _ _ _ _ _).trans ?_
    refine (x_callV rfl rfl rfl rfl).trans ((cl_X10_feed_X9_add _ _ _).trans ((gr_X9_add _ _ _).trans (pbd fun _ => ?_)))
    refine (t_X10_feed_57 _ _ _ _ _ _ _).trans ?_
    exact x_iret
  · refine (t_X10_feed_13 _ _ _ _ _ _ _ _ _).trans ?_
    exact x_iret
noncomputable def g_X10_feed {ρ : Type} (σ : zH) (av : List zAV) (q : zH → zAV → Option ρ) : Option ρ := match av with
  | [.inr (.inr (.inl (10, 0))), .inl xa1, .inl xa2, .inl xa3, .inl xa4, .inl xa5] => (d_X10_feed σ xa1 xa2 xa3 xa4 xa5).bind fun p => q p.1 (vI p.2)
  | _ => none
theorem gr_X10_feed {ρ : Type} (σ : zH) (xa1 : Int32) (xa2 : Int32) (xa3 : Int32) (xa4 : Int32) (xa5 : Int32) (q : zH → zAV → Option ρ) : g_X10_feed σ [vR 10 0, vI xa1, vI xa2, vI xa3, vI xa4, vI xa5] q = (d_X10_feed σ xa1 xa2 xa3 xa4 xa5).bind fun p => q p.1 (vI p.2) := rfl
theorem c_X10_feed {ρ : Type} {X : zX} (hX : zHX X) {σ : zH} {av : List zAV} {q : zH → zAV → Option ρ} {r : ρ} (h : g_X10_feed σ av q = some r) (hv : ∀ a ∈ av, zval X a) : zcon X 91 σ av q r := by
  unfold g_X10_feed at h
  split at h
  · exact zcon_I (n := 91) (ml := 6) (rc := 0) (st := 0) (kd := 10) (np := 5) (by decide +kernel) (by decide) ⟨_, _, rfl, rfl⟩ (Nat.le_of_ble_eq_true rfl) hv h (fun y h1 => (zin_ok (hy_X10_feed hX) bk_X10_feed (fun t f hf => by
      cases hf) ((e_X10_feed _ _ _ _ _ _).symm.trans h1)))
  · cases h
/-! SleepWaves.end(I)I -/
def q_X10_end_16 : List zEnt := zE 16 .ireturn 1 :: []
def q_X10_end_15 : List zEnt := zEk 15 (.iconst (-1)) 1 (-1) :: q_X10_end_16
def q_X10_end_12 : List zEnt := zEa 12 (.if_icmp .le 5) 3 17 :: q_X10_end_15
def q_X10_end_4 : List zEnt := zE 4 (.iload_n 1) 1 :: zE 5 (.aload_n 0) 1 :: zEf 6 (.getfield 10) 3 10 0 136 (2, 9, 0) :: zEf 9 (.getfield 93) 3 9 1 2 (0, 0, 0) :: q_X10_end_12
def q_X10_end_1 : List zEnt := zEa 1 (.ifCond .lt 14) 3 15 :: q_X10_end_4
def q_X10_end_0 : List zEnt := zE 0 (.iload_n 1) 1 :: q_X10_end_1
def q_X10_end_26 : List zEnt := zE 26 .ireturn 1 :: []
def q_X10_end_25 : List zEnt := zE 25 (.iload_n 1) 1 :: q_X10_end_26
def q_X10_end_22 : List zEnt := zEf 22 (.putfield 93) 3 9 1 2 (0, 0, 0) :: q_X10_end_25
def q_X10_end_17 : List zEnt := zE 17 (.aload_n 0) 1 :: zEf 18 (.getfield 10) 3 10 0 136 (2, 9, 0) :: zE 21 (.iload_n 1) 1 :: q_X10_end_22
def b_X10_end : List (Nat × List zEnt) := [(0, q_X10_end_0), (15, q_X10_end_15), (17, q_X10_end_17)]
theorem bk_X10_end : zchB 92 b_X10_end = true := by decide +kernel
theorem hy_X10_end {ρ : Type} {X : zX} (hX : zHX X) : zHY X 92 (zc0 (ρ := ρ)) := zHX.hY hX (zc0_ok X) (zmok_all 92 (by decide))
theorem t_X10_end_0 {G : Nat → zH → List zAV → List zAV → Option (zH × Int32)} (es : List zEnt) (σ : zH) (x1 : Int32)   : zev zc0 G 0 krI (zE 0 (.iload_n 1) 1 :: es) σ [vR 10 0, vI x1] [] = zev zc0 G 0 krI es σ [vR 10 0, vI x1] [vI x1] := rfl
theorem t_X10_end_4 {G : Nat → zH → List zAV → List zAV → Option (zH × Int32)} (es : List zEnt) (σ : zH) (x1 : Int32)   : zev zc0 G 0 krI (zE 4 (.iload_n 1) 1 :: zE 5 (.aload_n 0) 1 :: zEf 6 (.getfield 10) 3 10 0 136 (2, 9, 0) :: zEf 9 (.getfield 93) 3 9 1 2 (0, 0, 0) :: es) σ [vR 10 0, vI x1] [] = zev zc0 G 0 krI es σ [vR 10 0, vI x1] [vI (σ.1 9 0 1), vI x1] := rfl
theorem t_X10_end_15 {G : Nat → zH → List zAV → List zAV → Option (zH × Int32)} (es : List zEnt) (σ : zH)  (y0 : zAV) (y1 : zAV) (w15 : Int32) : zev zc0 G 0 krI (zEk 15 (.iconst (-1)) 1 w15 :: es) σ [y0, y1] [] = zev zc0 G 0 krI es σ [y0, y1] [vI w15] := rfl
theorem t_X10_end_17 {G : Nat → zH → List zAV → List zAV → Option (zH × Int32)} (es : List zEnt) (σ : zH) (x1 : Int32)   : zev zc0 G 0 krI (zE 17 (.aload_n 0) 1 :: zEf 18 (.getfield 10) 3 10 0 136 (2, 9, 0) :: zE 21 (.iload_n 1) 1 :: es) σ [vR 10 0, vI x1] [] = zev zc0 G 0 krI es σ [vR 10 0, vI x1] [vI x1, vR 9 0] := rfl
theorem t_X10_end_25 {G : Nat → zH → List zAV → List zAV → Option (zH × Int32)} (es : List zEnt) (σ : zH) (x1 : Int32) (y0 : zAV)  : zev zc0 G 0 krI (zE 25 (.iload_n 1) 1 :: es) σ [y0, vI x1] [] = zev zc0 G 0 krI es σ [y0, vI x1] [vI x1] := rfl
noncomputable def d_X10_end (σ : zH) (xa1 : Int32) : Option (zH × Int32) :=
  if xa1 < 0 then
    some (σ, (-1 : Int32))
  else
    if (σ.1 9 0 1) < xa1 then
      some (σ, (-1 : Int32))
    else
      zlet (uI σ 9 0 1 xa1) fun σ1 =>
      some (σ1, xa1)
theorem e_X10_end (σ : zH) (xa1 : Int32) : d_X10_end σ xa1 = zin zc0 (fun t => none) 0 krI b_X10_end 0 σ [vR 10 0, vI xa1] [] := by
  unfold d_X10_end
  refine Eq.symm ((zin_b (es := q_X10_end_0) rfl).trans ?_)
  refine (t_X10_end_0 _ _ _).trans ?_
  refine x_if.trans (pif_lt ?_ ?_)
  · refine (zrun_b (es := q_X10_end_15) rfl rfl).trans ?_
    refine (t_X10_end_15 _ _ _ _ _).trans ?_
    exact x_iret
  · refine (t_X10_end_4 _ _ _).trans ?_
    refine x_icmp.trans (pif_le ?_ ?_)
    · refine (zrun_b (es := q_X10_end_17) rfl rfl).trans ?_
      refine (t_X10_end_17 _ _ _).trans ?_
      refine x_pf0.trans (plt fun _ => ?_)
      refine (t_X10_end_25 _ _ _ _).trans ?_
      exact x_iret
    · refine (t_X10_end_15 _ _ _ _ _).trans ?_
      exact x_iret
noncomputable def g_X10_end {ρ : Type} (σ : zH) (av : List zAV) (q : zH → zAV → Option ρ) : Option ρ := match av with
  | [.inr (.inr (.inl (10, 0))), .inl xa1] => (d_X10_end σ xa1).bind fun p => q p.1 (vI p.2)
  | _ => none
theorem gr_X10_end {ρ : Type} (σ : zH) (xa1 : Int32) (q : zH → zAV → Option ρ) : g_X10_end σ [vR 10 0, vI xa1] q = (d_X10_end σ xa1).bind fun p => q p.1 (vI p.2) := rfl
theorem c_X10_end {ρ : Type} {X : zX} (hX : zHX X) {σ : zH} {av : List zAV} {q : zH → zAV → Option ρ} {r : ρ} (h : g_X10_end σ av q = some r) (hv : ∀ a ∈ av, zval X a) : zcon X 92 σ av q r := by
  unfold g_X10_end at h
  split at h
  · exact zcon_I (n := 92) (ml := 2) (rc := 0) (st := 0) (kd := 10) (np := 1) (by decide +kernel) (by decide) ⟨_, _, rfl, rfl⟩ (Nat.le_of_ble_eq_true rfl) hv h (fun y h1 => (zin_ok (hy_X10_end hX) bk_X10_end (fun t f hf => by
      cases hf) ((e_X10_end _ _).symm.trans h1)))
  · cases h
/-! SleepWaves.barracks()I -/
def q_X10_barracks_28 : List zEnt := zE 28 .ireturn 1 :: []
def q_X10_barracks_24 : List zEnt := zEk 24 (.bipush (-2)) 2 (-2) :: zE 26 (.iload_n 1) 1 :: zE 27 .isub 1 :: q_X10_barracks_28
def q_X10_barracks_21 : List zEnt := zEa 21 (.ifCond .eq 8) 3 29 :: q_X10_barracks_24
def q_X10_barracks_20 : List zEnt := zE 20 (.iload_n 1) 1 :: q_X10_barracks_21
def q_X10_barracks_17 : List zEnt := zEf 17 (.putfield 93) 3 9 1 2 (0, 0, 0) :: q_X10_barracks_20
def q_X10_barracks_11 : List zEnt := zE 11 (.istore_n 1) 1 :: zE 12 (.aload_n 0) 1 :: zEf 13 (.getfield 10) 3 10 0 136 (2, 9, 0) :: zEk 16 (.iconst 0) 1 0 :: q_X10_barracks_17
def q_X10_barracks_8 : List zEnt := zEc 8 (.invokevirtual 101) 3 7 2 1 0 :: q_X10_barracks_11
def q_X10_barracks_0 : List zEnt := zE 0 (.aload_n 0) 1 :: zEf 1 (.getfield 26) 3 10 1 137 (2, 1, 0) :: zE 4 (.aload_n 0) 1 :: zEf 5 (.getfield 40) 3 10 3 139 (2, 0, 0) :: q_X10_barracks_8
def q_X10_barracks_54 : List zEnt := zE 54 .ireturn 1 :: []
def q_X10_barracks_47 : List zEnt := zE 47 (.aload_n 0) 1 :: zEf 48 (.getfield 40) 3 10 3 139 (2, 0, 0) :: zEf 51 (.getfield 112) 3 0 0 33 (0, 0, 0) :: q_X10_barracks_54
def q_X10_barracks_44 : List zEnt := zEc 44 (.invokevirtual 109) 3 52 1 25 1 :: q_X10_barracks_47
def q_X10_barracks_40 : List zEnt := zE 40 (.aload_n 0) 1 :: zEf 41 (.getfield 61) 3 10 7 143 (2, 6, 0) :: q_X10_barracks_44
def q_X10_barracks_37 : List zEnt := zEc 37 (.invokevirtual 105) 3 70 2 20 1 :: q_X10_barracks_40
def q_X10_barracks_29 : List zEnt := zE 29 (.aload_n 0) 1 :: zEf 30 (.getfield 54) 3 10 6 142 (2, 8, 0) :: zE 33 (.aload_n 0) 1 :: zEf 34 (.getfield 40) 3 10 3 139 (2, 0, 0) :: q_X10_barracks_37
def b_X10_barracks : List (Nat × List zEnt) := [(0, q_X10_barracks_0), (29, q_X10_barracks_29)]
theorem bk_X10_barracks : zchB 93 b_X10_barracks = true := by decide +kernel
noncomputable def cc_X10_barracks {ρ : Type} : Nat → zH → List zAV → (zH → zAV → Option ρ) → Option ρ := fun n σ av q => if n = 7 then g_X1_readCamp σ av q else if n = 70 then g_X8_begin σ av q else if n = 52 then g_X6_clear σ av q else none
theorem cs_X10_barracks {ρ : Type} {X : zX} (hX : zHX X) : zCS X (cc_X10_barracks (ρ := ρ)) := by
  intro n σ av q r h hv
  unfold cc_X10_barracks at h
  by_cases e_X1_readCamp : n = 7
  · rw [if_pos e_X1_readCamp] at h
    subst e_X1_readCamp
    exact c_X1_readCamp hX h hv
  rw [if_neg e_X1_readCamp] at h
  by_cases e_X8_begin : n = 70
  · rw [if_pos e_X8_begin] at h
    subst e_X8_begin
    exact c_X8_begin hX h hv
  rw [if_neg e_X8_begin] at h
  by_cases e_X6_clear : n = 52
  · rw [if_pos e_X6_clear] at h
    subst e_X6_clear
    exact c_X6_clear hX h hv
  rw [if_neg e_X6_clear] at h
  cases h
theorem cl_X10_barracks_X1_readCamp {ρ : Type} (σ : zH) (av : List zAV) (q : zH → zAV → Option ρ) : cc_X10_barracks 7 σ av q = g_X1_readCamp σ av q := rfl
theorem cl_X10_barracks_X8_begin {ρ : Type} (σ : zH) (av : List zAV) (q : zH → zAV → Option ρ) : cc_X10_barracks 70 σ av q = g_X8_begin σ av q := rfl
theorem cl_X10_barracks_X6_clear {ρ : Type} (σ : zH) (av : List zAV) (q : zH → zAV → Option ρ) : cc_X10_barracks 52 σ av q = g_X6_clear σ av q := rfl
theorem hy_X10_barracks {ρ : Type} {X : zX} (hX : zHX X) : zHY X 93 (cc_X10_barracks (ρ := ρ)) := zHX.hY hX (cs_X10_barracks hX) (zmok_all 93 (by decide))
theorem t_X10_barracks_0 {G : Nat → zH → List zAV → List zAV → Option (zH × Int32)} (es : List zEnt) (σ : zH)  (y1 : zAV)  : zev cc_X10_barracks G 0 krI (zE 0 (.aload_n 0) 1 :: zEf 1 (.getfield 26) 3 10 1 137 (2, 1, 0) :: zE 4 (.aload_n 0) 1 :: zEf 5 (.getfield 40) 3 10 3 139 (2, 0, 0) :: es) σ [vR 10 0, y1] [] = zev cc_X10_barracks G 0 krI es σ [vR 10 0, y1] [vR 0 0, vR 1 0] := rfl
theorem t_X10_barracks_11 {G : Nat → zH → List zAV → List zAV → Option (zH × Int32)} (es : List zEnt) (σ : zH) (xs0 : Int32) (y1 : zAV) (w16 : Int32) : zev cc_X10_barracks G 0 krI (zE 11 (.istore_n 1) 1 :: zE 12 (.aload_n 0) 1 :: zEf 13 (.getfield 10) 3 10 0 136 (2, 9, 0) :: zEk 16 (.iconst 0) 1 w16 :: es) σ [vR 10 0, y1] [vI xs0] = zev cc_X10_barracks G 0 krI es σ [vR 10 0, vI xs0] [vI w16, vR 9 0] := rfl
theorem t_X10_barracks_20 {G : Nat → zH → List zAV → List zAV → Option (zH × Int32)} (es : List zEnt) (σ : zH) (x1 : Int32)   : zev cc_X10_barracks G 0 krI (zE 20 (.iload_n 1) 1 :: es) σ [vR 10 0, vI x1] [] = zev cc_X10_barracks G 0 krI es σ [vR 10 0, vI x1] [vI x1] := rfl
theorem t_X10_barracks_24 {G : Nat → zH → List zAV → List zAV → Option (zH × Int32)} (es : List zEnt) (σ : zH) (x1 : Int32) (y0 : zAV) (w24 : Int32) : zev cc_X10_barracks G 0 krI (zEk 24 (.bipush (-2)) 2 w24 :: zE 26 (.iload_n 1) 1 :: zE 27 .isub 1 :: es) σ [y0, vI x1] [] = zev cc_X10_barracks G 0 krI es σ [y0, vI x1] [vI (w24 - x1)] := rfl
theorem t_X10_barracks_29 {G : Nat → zH → List zAV → List zAV → Option (zH × Int32)} (es : List zEnt) (σ : zH)  (y1 : zAV)  : zev cc_X10_barracks G 0 krI (zE 29 (.aload_n 0) 1 :: zEf 30 (.getfield 54) 3 10 6 142 (2, 8, 0) :: zE 33 (.aload_n 0) 1 :: zEf 34 (.getfield 40) 3 10 3 139 (2, 0, 0) :: es) σ [vR 10 0, y1] [] = zev cc_X10_barracks G 0 krI es σ [vR 10 0, y1] [vR 0 0, vR 8 0] := rfl
theorem t_X10_barracks_40 {G : Nat → zH → List zAV → List zAV → Option (zH × Int32)} (es : List zEnt) (σ : zH)  (y1 : zAV)  : zev cc_X10_barracks G 0 krI (zE 40 (.aload_n 0) 1 :: zEf 41 (.getfield 61) 3 10 7 143 (2, 6, 0) :: es) σ [vR 10 0, y1] [] = zev cc_X10_barracks G 0 krI es σ [vR 10 0, y1] [vR 6 0] := rfl
theorem t_X10_barracks_47 {G : Nat → zH → List zAV → List zAV → Option (zH × Int32)} (es : List zEnt) (σ : zH)  (y1 : zAV)  : zev cc_X10_barracks G 0 krI (zE 47 (.aload_n 0) 1 :: zEf 48 (.getfield 40) 3 10 3 139 (2, 0, 0) :: zEf 51 (.getfield 112) 3 0 0 33 (0, 0, 0) :: es) σ [vR 10 0, y1] [] = zev cc_X10_barracks G 0 krI es σ [vR 10 0, y1] [vI (σ.1 0 0 0)] := rfl
noncomputable def d_X10_barracks (σ : zH)  : Option (zH × Int32) :=
  (d_X1_readCamp σ 0).bind fun p1 =>
  zlet (uI p1.1 9 0 1 (0 : Int32)) fun σ2 =>
  if p1.2 = 0 then
    (d_X8_begin σ2 0 0).bind fun σ3 =>
    (d_X6_clear σ3 0).bind fun σ4 =>
    some (σ4, (σ4.1 0 0 0))
  else
    some (σ2, ((-2 : Int32) - p1.2))
theorem e_X10_barracks (σ : zH)  : d_X10_barracks σ = zin cc_X10_barracks (fun t => none) 0 krI b_X10_barracks 0 σ [vR 10 0, vU] [] := by
  unfold d_X10_barracks
  refine Eq.symm ((zin_b (es := q_X10_barracks_0) rfl).trans ?_)
  refine (t_X10_barracks_0 _ _ _).trans ?_
  refine (x_callV rfl rfl rfl rfl).trans ((cl_X10_barracks_X1_readCamp _ _ _).trans ((gr_X1_readCamp _ _ _).trans (pbd fun _ => ?_)))
  refine (t_X10_barracks_11 _ _ _ _ _).trans ?_
  refine x_pf0.trans (plt fun _ => ?_)
  refine (t_X10_barracks_20 _ _ _).trans ?_
  refine x_if.trans (pif_eq ?_ ?_)
  · refine (zrun_b (es := q_X10_barracks_29) rfl rfl).trans ?_
    refine (t_X10_barracks_29 _ _ _).trans ?_
    refine (x_callV rfl rfl rfl rfl).trans ((cl_X10_barracks_X8_begin _ _ _).trans ((gr_X8_begin _ _ _ _).trans (pbd fun _ => ?_)))
    refine (t_X10_barracks_40 _ _ _).trans ?_
    refine (x_callV rfl rfl rfl rfl).trans ((cl_X10_barracks_X6_clear _ _ _).trans ((gr_X6_clear _ _ _).trans (pbd fun _ => ?_)))
    refine (t_X10_barracks_47 _ _ _).trans ?_
    exact x_iret
  · refine (t_X10_barracks_24 _ _ _ _ _).trans ?_
    exact x_iret
noncomputable def g_X10_barracks {ρ : Type} (σ : zH) (av : List zAV) (q : zH → zAV → Option ρ) : Option ρ := match av with
  | [.inr (.inr (.inl (10, 0)))] => (d_X10_barracks σ).bind fun p => q p.1 (vI p.2)
  | _ => none
theorem gr_X10_barracks {ρ : Type} (σ : zH)  (q : zH → zAV → Option ρ) : g_X10_barracks σ [vR 10 0] q = (d_X10_barracks σ).bind fun p => q p.1 (vI p.2) := rfl
theorem c_X10_barracks {ρ : Type} {X : zX} (hX : zHX X) {σ : zH} {av : List zAV} {q : zH → zAV → Option ρ} {r : ρ} (h : g_X10_barracks σ av q = some r) (hv : ∀ a ∈ av, zval X a) : zcon X 93 σ av q r := by
  unfold g_X10_barracks at h
  split at h
  · exact zcon_I (n := 93) (ml := 2) (rc := 0) (st := 0) (kd := 10) (np := 0) (by decide +kernel) (by decide) ⟨_, _, rfl, rfl⟩ (Nat.le_of_ble_eq_true rfl) hv h (fun y h1 => (zin_ok (hy_X10_barracks hX) bk_X10_barracks (fun t f hf => by
      cases hf) ((e_X10_barracks _).symm.trans h1)))
  · cases h
/-! SleepWaves.law()I -/
def q_X10_law_10 : List zEnt := zE 10 .ireturn 1 :: []
def q_X10_law_9 : List zEnt := zEk 9 (.iconst (-1)) 1 (-1) :: q_X10_law_10
def q_X10_law_6 : List zEnt := zEa 6 (.if_icmp .lt 5) 3 11 :: q_X10_law_9
def q_X10_law_0 : List zEnt := zE 0 (.aload_n 0) 1 :: zEf 1 (.getfield 115) 3 10 5 141 (0, 0, 0) :: zEk 4 (.bipush 6) 2 6 :: q_X10_law_6
def q_X10_law_44 : List zEnt := zE 44 .ireturn 1 :: []
def q_X10_law_40 : List zEnt := zEk 40 (.bipush (-2)) 2 (-2) :: zE 42 (.iload_n 1) 1 :: zE 43 .isub 1 :: q_X10_law_44
def q_X10_law_37 : List zEnt := zEa 37 (.ifCond .eq 8) 3 45 :: q_X10_law_40
def q_X10_law_36 : List zEnt := zE 36 (.iload_n 1) 1 :: q_X10_law_37
def q_X10_law_33 : List zEnt := zEf 33 (.putfield 93) 3 9 1 2 (0, 0, 0) :: q_X10_law_36
def q_X10_law_27 : List zEnt := zE 27 (.istore_n 1) 1 :: zE 28 (.aload_n 0) 1 :: zEf 29 (.getfield 10) 3 10 0 136 (2, 9, 0) :: zEk 32 (.iconst 0) 1 0 :: q_X10_law_33
def q_X10_law_24 : List zEnt := zEc 24 (.invokevirtual 118) 3 39 2 26 0 :: q_X10_law_27
def q_X10_law_23 : List zEnt := zE 23 .aaload 1 :: q_X10_law_24
def q_X10_law_11 : List zEnt := zE 11 (.aload_n 0) 1 :: zEf 12 (.getfield 33) 3 10 2 138 (2, 5, 0) :: zE 15 (.aload_n 0) 1 :: zEf 16 (.getfield 46) 3 10 4 140 (2, 38, 0) :: zE 19 (.aload_n 0) 1 :: zEf 20 (.getfield 115) 3 10 5 141 (0, 0, 0) :: q_X10_law_23
def q_X10_law_61 : List zEnt := zE 61 .ireturn 1 :: []
def q_X10_law_55 : List zEnt := zE 55 (.aload_n 0) 1 :: zEf 56 (.getfield 115) 3 10 5 141 (0, 0, 0) :: zEk 59 (.iconst 1) 1 1 :: zE 60 .isub 1 :: q_X10_law_61
def q_X10_law_52 : List zEnt := zEf 52 (.putfield 115) 3 10 5 141 (0, 0, 0) :: q_X10_law_55
def q_X10_law_45 : List zEnt := zE 45 (.aload_n 0) 1 :: zE 46 .dup 1 :: zEf 47 (.getfield 115) 3 10 5 141 (0, 0, 0) :: zEk 50 (.iconst 1) 1 1 :: zE 51 .iadd 1 :: q_X10_law_52
def b_X10_law : List (Nat × List zEnt) := [(0, q_X10_law_0), (11, q_X10_law_11), (45, q_X10_law_45)]
theorem bk_X10_law : zchB 94 b_X10_law = true := by decide +kernel
noncomputable def cc_X10_law {ρ : Type} : Nat → zH → List zAV → (zH → zAV → Option ρ) → Option ρ := fun n σ av q => if n = 39 then g_X5_readLaw σ av q else none
theorem cs_X10_law {ρ : Type} {X : zX} (hX : zHX X) : zCS X (cc_X10_law (ρ := ρ)) := by
  intro n σ av q r h hv
  unfold cc_X10_law at h
  by_cases e_X5_readLaw : n = 39
  · rw [if_pos e_X5_readLaw] at h
    subst e_X5_readLaw
    exact c_X5_readLaw hX h hv
  rw [if_neg e_X5_readLaw] at h
  cases h
theorem cl_X10_law_X5_readLaw {ρ : Type} (σ : zH) (av : List zAV) (q : zH → zAV → Option ρ) : cc_X10_law 39 σ av q = g_X5_readLaw σ av q := rfl
theorem hy_X10_law {ρ : Type} {X : zX} (hX : zHX X) : zHY X 94 (cc_X10_law (ρ := ρ)) := zHX.hY hX (cs_X10_law hX) (zmok_all 94 (by decide))
theorem t_X10_law_0 {G : Nat → zH → List zAV → List zAV → Option (zH × Int32)} (es : List zEnt) (σ : zH)  (y1 : zAV) (w4 : Int32) : zev cc_X10_law G 0 krI (zE 0 (.aload_n 0) 1 :: zEf 1 (.getfield 115) 3 10 5 141 (0, 0, 0) :: zEk 4 (.bipush 6) 2 w4 :: es) σ [vR 10 0, y1] [] = zev cc_X10_law G 0 krI es σ [vR 10 0, y1] [vI w4, vI (σ.1 10 0 5)] := rfl
theorem t_X10_law_9 {G : Nat → zH → List zAV → List zAV → Option (zH × Int32)} (es : List zEnt) (σ : zH)  (y0 : zAV) (y1 : zAV) (w9 : Int32) : zev cc_X10_law G 0 krI (zEk 9 (.iconst (-1)) 1 w9 :: es) σ [y0, y1] [] = zev cc_X10_law G 0 krI es σ [y0, y1] [vI w9] := rfl
theorem t_X10_law_11 {G : Nat → zH → List zAV → List zAV → Option (zH × Int32)} (es : List zEnt) (σ : zH)  (y1 : zAV)  : zev cc_X10_law G 0 krI (zE 11 (.aload_n 0) 1 :: zEf 12 (.getfield 33) 3 10 2 138 (2, 5, 0) :: zE 15 (.aload_n 0) 1 :: zEf 16 (.getfield 46) 3 10 4 140 (2, 38, 0) :: zE 19 (.aload_n 0) 1 :: zEf 20 (.getfield 115) 3 10 5 141 (0, 0, 0) :: es) σ [vR 10 0, y1] [] = zev cc_X10_law G 0 krI es σ [vR 10 0, y1] [vI (σ.1 10 0 5), vR 38 0, vR 5 0] := rfl
theorem t_X10_law_27 {G : Nat → zH → List zAV → List zAV → Option (zH × Int32)} (es : List zEnt) (σ : zH) (xs0 : Int32) (y1 : zAV) (w32 : Int32) : zev cc_X10_law G 0 krI (zE 27 (.istore_n 1) 1 :: zE 28 (.aload_n 0) 1 :: zEf 29 (.getfield 10) 3 10 0 136 (2, 9, 0) :: zEk 32 (.iconst 0) 1 w32 :: es) σ [vR 10 0, y1] [vI xs0] = zev cc_X10_law G 0 krI es σ [vR 10 0, vI xs0] [vI w32, vR 9 0] := rfl
theorem t_X10_law_36 {G : Nat → zH → List zAV → List zAV → Option (zH × Int32)} (es : List zEnt) (σ : zH) (x1 : Int32)   : zev cc_X10_law G 0 krI (zE 36 (.iload_n 1) 1 :: es) σ [vR 10 0, vI x1] [] = zev cc_X10_law G 0 krI es σ [vR 10 0, vI x1] [vI x1] := rfl
theorem t_X10_law_40 {G : Nat → zH → List zAV → List zAV → Option (zH × Int32)} (es : List zEnt) (σ : zH) (x1 : Int32) (y0 : zAV) (w40 : Int32) : zev cc_X10_law G 0 krI (zEk 40 (.bipush (-2)) 2 w40 :: zE 42 (.iload_n 1) 1 :: zE 43 .isub 1 :: es) σ [y0, vI x1] [] = zev cc_X10_law G 0 krI es σ [y0, vI x1] [vI (w40 - x1)] := rfl
theorem t_X10_law_45 {G : Nat → zH → List zAV → List zAV → Option (zH × Int32)} (es : List zEnt) (σ : zH)  (y1 : zAV) (w50 : Int32) : zev cc_X10_law G 0 krI (zE 45 (.aload_n 0) 1 :: zE 46 .dup 1 :: zEf 47 (.getfield 115) 3 10 5 141 (0, 0, 0) :: zEk 50 (.iconst 1) 1 w50 :: zE 51 .iadd 1 :: es) σ [vR 10 0, y1] [] = zev cc_X10_law G 0 krI es σ [vR 10 0, y1] [vI ((σ.1 10 0 5) + w50), vR 10 0] := rfl
theorem t_X10_law_55 {G : Nat → zH → List zAV → List zAV → Option (zH × Int32)} (es : List zEnt) (σ : zH)  (y1 : zAV) (w59 : Int32) : zev cc_X10_law G 0 krI (zE 55 (.aload_n 0) 1 :: zEf 56 (.getfield 115) 3 10 5 141 (0, 0, 0) :: zEk 59 (.iconst 1) 1 w59 :: zE 60 .isub 1 :: es) σ [vR 10 0, y1] [] = zev cc_X10_law G 0 krI es σ [vR 10 0, y1] [vI ((σ.1 10 0 5) - w59)] := rfl
noncomputable def d_X10_law (σ : zH)  : Option (zH × Int32) :=
  if (σ.1 10 0 5) < (6 : Int32) then
    ix (σ.1 10 0 5) 6 fun j1 =>
    (d_X5_readLaw σ (0 + j1)).bind fun p2 =>
    zlet (uI p2.1 9 0 1 (0 : Int32)) fun σ3 =>
    if p2.2 = 0 then
      zlet (uI σ3 10 0 5 ((σ3.1 10 0 5) + (1 : Int32))) fun σ4 =>
      some (σ4, ((σ4.1 10 0 5) - (1 : Int32)))
    else
      some (σ3, ((-2 : Int32) - p2.2))
  else
    some (σ, (-1 : Int32))
theorem e_X10_law (σ : zH)  : d_X10_law σ = zin cc_X10_law (fun t => none) 0 krI b_X10_law 0 σ [vR 10 0, vU] [] := by
  unfold d_X10_law
  refine Eq.symm ((zin_b (es := q_X10_law_0) rfl).trans ?_)
  refine (t_X10_law_0 _ _ _ _).trans ?_
  refine x_icmp.trans (pif_lt ?_ ?_)
  · refine (zrun_b (es := q_X10_law_11) rfl rfl).trans ?_
    refine (t_X10_law_11 _ _ _).trans ?_
    refine (x_aald (N := 6) rfl rfl rfl rfl).trans (pix fun _ => ?_)
    refine (x_callV rfl rfl rfl rfl).trans ((cl_X10_law_X5_readLaw _ _ _).trans ((gr_X5_readLaw _ _ _).trans (pbd fun _ => ?_)))
    refine (t_X10_law_27 _ _ _ _ _).trans ?_
    refine x_pf0.trans (plt fun _ => ?_)
    refine (t_X10_law_36 _ _ _).trans ?_
    refine x_if.trans (pif_eq ?_ ?_)
    · refine (zrun_b (es := q_X10_law_45) rfl rfl).trans ?_
      refine (t_X10_law_45 _ _ _ _).trans ?_
      refine x_pf0.trans (plt fun _ => ?_)
      refine (t_X10_law_55 _ _ _ _).trans ?_
      exact x_iret
    · refine (t_X10_law_40 _ _ _ _ _).trans ?_
      exact x_iret
  · refine (t_X10_law_9 _ _ _ _ _).trans ?_
    exact x_iret
noncomputable def g_X10_law {ρ : Type} (σ : zH) (av : List zAV) (q : zH → zAV → Option ρ) : Option ρ := match av with
  | [.inr (.inr (.inl (10, 0)))] => (d_X10_law σ).bind fun p => q p.1 (vI p.2)
  | _ => none
theorem gr_X10_law {ρ : Type} (σ : zH)  (q : zH → zAV → Option ρ) : g_X10_law σ [vR 10 0] q = (d_X10_law σ).bind fun p => q p.1 (vI p.2) := rfl
theorem c_X10_law {ρ : Type} {X : zX} (hX : zHX X) {σ : zH} {av : List zAV} {q : zH → zAV → Option ρ} {r : ρ} (h : g_X10_law σ av q = some r) (hv : ∀ a ∈ av, zval X a) : zcon X 94 σ av q r := by
  unfold g_X10_law at h
  split at h
  · exact zcon_I (n := 94) (ml := 2) (rc := 0) (st := 0) (kd := 10) (np := 0) (by decide +kernel) (by decide) ⟨_, _, rfl, rfl⟩ (Nat.le_of_ble_eq_true rfl) hv h (fun y h1 => (zin_ok (hy_X10_law hX) bk_X10_law (fun t f hf => by
      cases hf) ((e_X10_law _).symm.trans h1)))
  · cases h
/-! SleepWaves.isLaw(I)Z -/
def q_X10_isLaw_13 : List zEnt := zEa 13 (.goto 4) 3 17 :: []
def q_X10_isLaw_12 : List zEnt := zEk 12 (.iconst 1) 1 1 :: q_X10_isLaw_13
def q_X10_isLaw_9 : List zEnt := zEa 9 (.if_icmp .ge 7) 3 16 :: q_X10_isLaw_12
def q_X10_isLaw_4 : List zEnt := zE 4 (.iload_n 1) 1 :: zE 5 (.aload_n 0) 1 :: zEf 6 (.getfield 115) 3 10 5 141 (0, 0, 0) :: q_X10_isLaw_9
def q_X10_isLaw_1 : List zEnt := zEa 1 (.ifCond .lt 15) 3 16 :: q_X10_isLaw_4
def q_X10_isLaw_0 : List zEnt := zE 0 (.iload_n 1) 1 :: q_X10_isLaw_1
def q_X10_isLaw_17 : List zEnt := zE 17 .ireturn 1 :: []
def q_X10_isLaw_16 : List zEnt := zEk 16 (.iconst 0) 1 0 :: q_X10_isLaw_17
def b_X10_isLaw : List (Nat × List zEnt) := [(0, q_X10_isLaw_0), (16, q_X10_isLaw_16), (17, q_X10_isLaw_17)]
theorem bk_X10_isLaw : zchB 122 b_X10_isLaw = true := by decide +kernel
theorem hy_X10_isLaw {ρ : Type} {X : zX} (hX : zHX X) : zHY X 122 (zc0 (ρ := ρ)) := zHX.hY hX (zc0_ok X) (zmok_all 122 (by decide))
theorem t_X10_isLaw_0 {G : Nat → zH → List zAV → List zAV → Option (zH × Int32)} (es : List zEnt) (σ : zH) (x1 : Int32)   : zev zc0 G 1 krI (zE 0 (.iload_n 1) 1 :: es) σ [vR 10 0, vI x1] [] = zev zc0 G 1 krI es σ [vR 10 0, vI x1] [vI x1] := rfl
theorem t_X10_isLaw_4 {G : Nat → zH → List zAV → List zAV → Option (zH × Int32)} (es : List zEnt) (σ : zH) (x1 : Int32)   : zev zc0 G 1 krI (zE 4 (.iload_n 1) 1 :: zE 5 (.aload_n 0) 1 :: zEf 6 (.getfield 115) 3 10 5 141 (0, 0, 0) :: es) σ [vR 10 0, vI x1] [] = zev zc0 G 1 krI es σ [vR 10 0, vI x1] [vI (σ.1 10 0 5), vI x1] := rfl
theorem t_X10_isLaw_12 {G : Nat → zH → List zAV → List zAV → Option (zH × Int32)} (es : List zEnt) (σ : zH)  (y0 : zAV) (y1 : zAV) (w12 : Int32) : zev zc0 G 1 krI (zEk 12 (.iconst 1) 1 w12 :: es) σ [y0, y1] [] = zev zc0 G 1 krI es σ [y0, y1] [vI w12] := rfl
theorem t_X10_isLaw_16 {G : Nat → zH → List zAV → List zAV → Option (zH × Int32)} (es : List zEnt) (σ : zH)  (y0 : zAV) (y1 : zAV) (w16 : Int32) : zev zc0 G 1 krI (zEk 16 (.iconst 0) 1 w16 :: es) σ [y0, y1] [] = zev zc0 G 1 krI es σ [y0, y1] [vI w16] := rfl
noncomputable def d_X10_isLaw (σ : zH) (xa1 : Int32) : Option (zH × Int32) :=
  if xa1 < 0 then
    some (σ, (0 : Int32))
  else
    if xa1 < (σ.1 10 0 5) then
      some (σ, (1 : Int32))
    else
      some (σ, (0 : Int32))
theorem e_X10_isLaw (σ : zH) (xa1 : Int32) : d_X10_isLaw σ xa1 = zin zc0 (fun t => none) 1 krI b_X10_isLaw 0 σ [vR 10 0, vI xa1] [] := by
  unfold d_X10_isLaw
  refine Eq.symm ((zin_b (es := q_X10_isLaw_0) rfl).trans ?_)
  refine (t_X10_isLaw_0 _ _ _).trans ?_
  refine x_if.trans (pif_lt ?_ ?_)
  · refine (zrun_b (es := q_X10_isLaw_16) rfl rfl).trans ?_
    refine (t_X10_isLaw_16 _ _ _ _ _).trans ?_
    exact x_zret.trans (tv_l (by decide +kernel))
  · refine (t_X10_isLaw_4 _ _ _).trans ?_
    refine x_icmp.trans (pif_ge ?_ ?_)
    · refine (zrun_b (es := q_X10_isLaw_16) rfl rfl).trans ?_
      refine (t_X10_isLaw_16 _ _ _ _ _).trans ?_
      exact x_zret.trans (tv_l (by decide +kernel))
    · refine (t_X10_isLaw_12 _ _ _ _ _).trans ?_
      refine x_goto.trans ?_
      refine (zrun_b (es := q_X10_isLaw_17) rfl rfl).trans ?_
      exact x_zret.trans (tv_l (by decide +kernel))
noncomputable def g_X10_isLaw {ρ : Type} (σ : zH) (av : List zAV) (q : zH → zAV → Option ρ) : Option ρ := match av with
  | [.inr (.inr (.inl (10, 0))), .inl xa1] => (d_X10_isLaw σ xa1).bind fun p => q p.1 (vI p.2)
  | _ => none
theorem gr_X10_isLaw {ρ : Type} (σ : zH) (xa1 : Int32) (q : zH → zAV → Option ρ) : g_X10_isLaw σ [vR 10 0, vI xa1] q = (d_X10_isLaw σ xa1).bind fun p => q p.1 (vI p.2) := rfl
theorem c_X10_isLaw {ρ : Type} {X : zX} (hX : zHX X) {σ : zH} {av : List zAV} {q : zH → zAV → Option ρ} {r : ρ} (h : g_X10_isLaw σ av q = some r) (hv : ∀ a ∈ av, zval X a) : zcon X 122 σ av q r := by
  unfold g_X10_isLaw at h
  split at h
  · exact zcon_I (n := 122) (ml := 2) (rc := 1) (st := 0) (kd := 10) (np := 1) (by decide +kernel) (by decide) ⟨_, _, rfl, rfl⟩ (Nat.le_of_ble_eq_true rfl) hv h (fun y h1 => (zin_ok (hy_X10_isLaw hX) bk_X10_isLaw (fun t f hf => by
      cases hf) ((e_X10_isLaw _ _).symm.trans h1)))
  · cases h
/-! SleepWaves.tick(II)I -/
def q_X10_tick_35 : List zEnt := zE 35 .ireturn 1 :: []
def q_X10_tick_34 : List zEnt := zEk 34 (.iconst (-1)) 1 (-1) :: q_X10_tick_35
def q_X10_tick_31 : List zEnt := zEa 31 (.if_icmp .le 5) 3 36 :: q_X10_tick_34
def q_X10_tick_19 : List zEnt := zE 19 (.aload_n 0) 1 :: zEf 20 (.getfield 54) 3 10 6 142 (2, 8, 0) :: zEf 23 (.getfield 126) 3 8 1 89 (0, 0, 0) :: zE 26 (.iload_n 2) 1 :: zE 27 .iadd 1 :: zEk 28 (.sipush 9999) 3 9999 :: q_X10_tick_31
def q_X10_tick_16 : List zEnt := zEa 16 (.if_icmp .gt 18) 3 34 :: q_X10_tick_19
def q_X10_tick_13 : List zEnt := zE 13 (.iload_n 2) 1 :: zEk 14 (.bipush 96) 2 96 :: q_X10_tick_16
def q_X10_tick_10 : List zEnt := zEa 10 (.if_icmp .lt 24) 3 34 :: q_X10_tick_13
def q_X10_tick_8 : List zEnt := zE 8 (.iload_n 2) 1 :: zEk 9 (.iconst 1) 1 1 :: q_X10_tick_10
def q_X10_tick_5 : List zEnt := zEa 5 (.ifCond .eq 29) 3 34 :: q_X10_tick_8
def q_X10_tick_2 : List zEnt := zEc 2 (.invokevirtual 122) 3 122 2 50 0 :: q_X10_tick_5
def q_X10_tick_0 : List zEnt := zE 0 (.aload_n 0) 1 :: zE 1 (.iload_n 1) 1 :: q_X10_tick_2
def q_X10_tick_36 : List zEnt := zEk 36 (.iconst 0) 1 0 :: zE 37 (.istore_n 3) 1 :: [zE 38 .nop 0]
def q_X10_tick_74 : List zEnt := zEa 74 (.goto (-36)) 3 38 :: []
def q_X10_tick_71 : List zEnt := zEk 71 (.iinc 3 1) 3 1 :: q_X10_tick_74
def q_X10_tick_68 : List zEnt := zEc 68 (.invokevirtual 137) 3 54 2 71 1 :: q_X10_tick_71
def q_X10_tick_65 : List zEnt := zEc 65 (.invokevirtual 133) 3 74 1 70 0 :: q_X10_tick_68
def q_X10_tick_57 : List zEnt := zE 57 (.aload_n 0) 1 :: zEf 58 (.getfield 61) 3 10 7 143 (2, 6, 0) :: zE 61 (.aload_n 0) 1 :: zEf 62 (.getfield 54) 3 10 6 142 (2, 8, 0) :: q_X10_tick_65
def q_X10_tick_54 : List zEnt := zEc 54 (.invokevirtual 129) 3 82 3 51 1 :: q_X10_tick_57
def q_X10_tick_53 : List zEnt := zEk 53 (.iconst 1) 1 1 :: q_X10_tick_54
def q_X10_tick_52 : List zEnt := zE 52 .aaload 1 :: q_X10_tick_53
def q_X10_tick_43 : List zEnt := zE 43 (.aload_n 0) 1 :: zEf 44 (.getfield 54) 3 10 6 142 (2, 8, 0) :: zE 47 (.aload_n 0) 1 :: zEf 48 (.getfield 46) 3 10 4 140 (2, 38, 0) :: zE 51 (.iload_n 1) 1 :: q_X10_tick_52
def q_X10_tick_40 : List zEnt := zEa 40 (.if_icmp .ge 37) 3 77 :: q_X10_tick_43
def q_X10_tick_38 : List zEnt := zE 38 (.iload_n 3) 1 :: zE 39 (.iload_n 2) 1 :: q_X10_tick_40
def q_X10_tick_84 : List zEnt := zE 84 .ireturn 1 :: []
def q_X10_tick_77 : List zEnt := zE 77 (.aload_n 0) 1 :: zEf 78 (.getfield 54) 3 10 6 142 (2, 8, 0) :: zEf 81 (.getfield 126) 3 8 1 89 (0, 0, 0) :: q_X10_tick_84
def b_X10_tick : List (Nat × List zEnt) := [(0, q_X10_tick_0), (34, q_X10_tick_34), (36, q_X10_tick_36), (38, q_X10_tick_38), (77, q_X10_tick_77)]
theorem bk_X10_tick : zchB 95 b_X10_tick = true := by decide +kernel
noncomputable def cc_X10_tick {ρ : Type} : Nat → zH → List zAV → (zH → zAV → Option ρ) → Option ρ := fun n σ av q => if n = 122 then g_X10_isLaw σ av q else if n = 82 then g_X8_passQuarters σ av q else if n = 74 then g_X8_upBits σ av q else if n = 54 then g_X6_add σ av q else none
theorem cs_X10_tick {ρ : Type} {X : zX} (hX : zHX X) : zCS X (cc_X10_tick (ρ := ρ)) := by
  intro n σ av q r h hv
  unfold cc_X10_tick at h
  by_cases e_X10_isLaw : n = 122
  · rw [if_pos e_X10_isLaw] at h
    subst e_X10_isLaw
    exact c_X10_isLaw hX h hv
  rw [if_neg e_X10_isLaw] at h
  by_cases e_X8_passQuarters : n = 82
  · rw [if_pos e_X8_passQuarters] at h
    subst e_X8_passQuarters
    exact c_X8_passQuarters hX h hv
  rw [if_neg e_X8_passQuarters] at h
  by_cases e_X8_upBits : n = 74
  · rw [if_pos e_X8_upBits] at h
    subst e_X8_upBits
    exact c_X8_upBits hX h hv
  rw [if_neg e_X8_upBits] at h
  by_cases e_X6_add : n = 54
  · rw [if_pos e_X6_add] at h
    subst e_X6_add
    exact c_X6_add hX h hv
  rw [if_neg e_X6_add] at h
  cases h
theorem cl_X10_tick_X10_isLaw {ρ : Type} (σ : zH) (av : List zAV) (q : zH → zAV → Option ρ) : cc_X10_tick 122 σ av q = g_X10_isLaw σ av q := rfl
theorem cl_X10_tick_X8_passQuarters {ρ : Type} (σ : zH) (av : List zAV) (q : zH → zAV → Option ρ) : cc_X10_tick 82 σ av q = g_X8_passQuarters σ av q := rfl
theorem cl_X10_tick_X8_upBits {ρ : Type} (σ : zH) (av : List zAV) (q : zH → zAV → Option ρ) : cc_X10_tick 74 σ av q = g_X8_upBits σ av q := rfl
theorem cl_X10_tick_X6_add {ρ : Type} (σ : zH) (av : List zAV) (q : zH → zAV → Option ρ) : cc_X10_tick 54 σ av q = g_X6_add σ av q := rfl
theorem hy_X10_tick {ρ : Type} {X : zX} (hX : zHX X) : zHY X 95 (cc_X10_tick (ρ := ρ)) := zHX.hY hX (cs_X10_tick hX) (zmok_all 95 (by decide))
def gl_X10_tick_38 {ρ : Type} (f : zH → Int32 → Int32 → Int32 → Option ρ) (σ : zH) (L st : List zAV) : Option ρ := match L, st with
  | [.inr (.inr (.inl (10, 0))), .inl x1, .inl x2, .inl x3], [] => f σ x1 x2 x3
  | _, _ => none
theorem glr_X10_tick_38 {ρ : Type} (f : zH → Int32 → Int32 → Int32 → Option ρ) (σ : zH) (x1 : Int32) (x2 : Int32) (x3 : Int32)  : gl_X10_tick_38 f σ [vR 10 0, vI x1, vI x2, vI x3] [] = f σ x1 x2 x3 := rfl
theorem t_X10_tick_0 {G : Nat → zH → List zAV → List zAV → Option (zH × Int32)} (es : List zEnt) (σ : zH) (x1 : Int32) (x2 : Int32) (y3 : zAV)  : zev cc_X10_tick G 0 krI (zE 0 (.aload_n 0) 1 :: zE 1 (.iload_n 1) 1 :: es) σ [vR 10 0, vI x1, vI x2, y3] [] = zev cc_X10_tick G 0 krI es σ [vR 10 0, vI x1, vI x2, y3] [vI x1, vR 10 0] := rfl
theorem t_X10_tick_8 {G : Nat → zH → List zAV → List zAV → Option (zH × Int32)} (es : List zEnt) (σ : zH) (x1 : Int32) (x2 : Int32) (y3 : zAV) (w9 : Int32) : zev cc_X10_tick G 0 krI (zE 8 (.iload_n 2) 1 :: zEk 9 (.iconst 1) 1 w9 :: es) σ [vR 10 0, vI x1, vI x2, y3] [] = zev cc_X10_tick G 0 krI es σ [vR 10 0, vI x1, vI x2, y3] [vI w9, vI x2] := rfl
theorem t_X10_tick_13 {G : Nat → zH → List zAV → List zAV → Option (zH × Int32)} (es : List zEnt) (σ : zH) (x1 : Int32) (x2 : Int32) (y3 : zAV) (w14 : Int32) : zev cc_X10_tick G 0 krI (zE 13 (.iload_n 2) 1 :: zEk 14 (.bipush 96) 2 w14 :: es) σ [vR 10 0, vI x1, vI x2, y3] [] = zev cc_X10_tick G 0 krI es σ [vR 10 0, vI x1, vI x2, y3] [vI w14, vI x2] := rfl
theorem t_X10_tick_19 {G : Nat → zH → List zAV → List zAV → Option (zH × Int32)} (es : List zEnt) (σ : zH) (x1 : Int32) (x2 : Int32) (y3 : zAV) (w28 : Int32) : zev cc_X10_tick G 0 krI (zE 19 (.aload_n 0) 1 :: zEf 20 (.getfield 54) 3 10 6 142 (2, 8, 0) :: zEf 23 (.getfield 126) 3 8 1 89 (0, 0, 0) :: zE 26 (.iload_n 2) 1 :: zE 27 .iadd 1 :: zEk 28 (.sipush 9999) 3 w28 :: es) σ [vR 10 0, vI x1, vI x2, y3] [] = zev cc_X10_tick G 0 krI es σ [vR 10 0, vI x1, vI x2, y3] [vI w28, vI ((σ.1 8 0 1) + x2)] := rfl
theorem t_X10_tick_34 {G : Nat → zH → List zAV → List zAV → Option (zH × Int32)} (es : List zEnt) (σ : zH)  (y0 : zAV) (y1 : zAV) (y2 : zAV) (y3 : zAV) (w34 : Int32) : zev cc_X10_tick G 0 krI (zEk 34 (.iconst (-1)) 1 w34 :: es) σ [y0, y1, y2, y3] [] = zev cc_X10_tick G 0 krI es σ [y0, y1, y2, y3] [vI w34] := rfl
theorem t_X10_tick_36 {G : Nat → zH → List zAV → List zAV → Option (zH × Int32)} (es : List zEnt) (σ : zH) (x1 : Int32) (x2 : Int32) (y3 : zAV) (w36 : Int32) : zev cc_X10_tick G 0 krI (zEk 36 (.iconst 0) 1 w36 :: zE 37 (.istore_n 3) 1 :: es) σ [vR 10 0, vI x1, vI x2, y3] [] = zev cc_X10_tick G 0 krI es σ [vR 10 0, vI x1, vI x2, vI w36] [] := rfl
theorem t_X10_tick_38 {G : Nat → zH → List zAV → List zAV → Option (zH × Int32)} (es : List zEnt) (σ : zH) (x1 : Int32) (x2 : Int32) (x3 : Int32)   : zev cc_X10_tick G 0 krI (zE 38 (.iload_n 3) 1 :: zE 39 (.iload_n 2) 1 :: es) σ [vR 10 0, vI x1, vI x2, vI x3] [] = zev cc_X10_tick G 0 krI es σ [vR 10 0, vI x1, vI x2, vI x3] [vI x2, vI x3] := rfl
theorem t_X10_tick_43 {G : Nat → zH → List zAV → List zAV → Option (zH × Int32)} (es : List zEnt) (σ : zH) (x1 : Int32) (x2 : Int32) (x3 : Int32)   : zev cc_X10_tick G 0 krI (zE 43 (.aload_n 0) 1 :: zEf 44 (.getfield 54) 3 10 6 142 (2, 8, 0) :: zE 47 (.aload_n 0) 1 :: zEf 48 (.getfield 46) 3 10 4 140 (2, 38, 0) :: zE 51 (.iload_n 1) 1 :: es) σ [vR 10 0, vI x1, vI x2, vI x3] [] = zev cc_X10_tick G 0 krI es σ [vR 10 0, vI x1, vI x2, vI x3] [vI x1, vR 38 0, vR 8 0] := rfl
theorem t_X10_tick_53 {G : Nat → zH → List zAV → List zAV → Option (zH × Int32)} (es : List zEnt) (σ : zH) (x1 : Int32) (x2 : Int32) (x3 : Int32) (is1 : Nat)  (w53 : Int32) : zev cc_X10_tick G 0 krI (zEk 53 (.iconst 1) 1 w53 :: es) σ [vR 10 0, vI x1, vI x2, vI x3] [vR 4 is1, vR 8 0] = zev cc_X10_tick G 0 krI es σ [vR 10 0, vI x1, vI x2, vI x3] [vI w53, vR 4 is1, vR 8 0] := rfl
theorem t_X10_tick_57 {G : Nat → zH → List zAV → List zAV → Option (zH × Int32)} (es : List zEnt) (σ : zH) (x1 : Int32) (x2 : Int32) (x3 : Int32)   : zev cc_X10_tick G 0 krI (zE 57 (.aload_n 0) 1 :: zEf 58 (.getfield 61) 3 10 7 143 (2, 6, 0) :: zE 61 (.aload_n 0) 1 :: zEf 62 (.getfield 54) 3 10 6 142 (2, 8, 0) :: es) σ [vR 10 0, vI x1, vI x2, vI x3] [] = zev cc_X10_tick G 0 krI es σ [vR 10 0, vI x1, vI x2, vI x3] [vR 8 0, vR 6 0] := rfl
theorem t_X10_tick_71 {G : Nat → zH → List zAV → List zAV → Option (zH × Int32)} (es : List zEnt) (σ : zH) (x1 : Int32) (x2 : Int32) (x3 : Int32)  (w71 : Int32) : zev cc_X10_tick G 0 krI (zEk 71 (.iinc 3 1) 3 w71 :: es) σ [vR 10 0, vI x1, vI x2, vI x3] [] = zev cc_X10_tick G 0 krI es σ [vR 10 0, vI x1, vI x2, vI (x3 + w71)] [] := rfl
theorem t_X10_tick_77 {G : Nat → zH → List zAV → List zAV → Option (zH × Int32)} (es : List zEnt) (σ : zH)  (y1 : zAV) (y2 : zAV) (y3 : zAV)  : zev cc_X10_tick G 0 krI (zE 77 (.aload_n 0) 1 :: zEf 78 (.getfield 54) 3 10 6 142 (2, 8, 0) :: zEf 81 (.getfield 126) 3 8 1 89 (0, 0, 0) :: es) σ [vR 10 0, y1, y2, y3] [] = zev cc_X10_tick G 0 krI es σ [vR 10 0, y1, y2, y3] [vI (σ.1 8 0 1)] := rfl
noncomputable def k_X10_tick_38  : Nat → zH → Int32 → Int32 → Int32 → Option (zH × Int32)
  | 0, _, _, _, _ => none
  | n + 1, σ, x1, x2, x3 =>
    if x3 < x2 then
      ix x1 6 fun j1 =>
      (d_X8_passQuarters σ 0 (0 + j1) (1 : Int32)).bind fun σ2 =>
      (d_X8_upBits σ2 0).bind fun p3 =>
      (d_X6_add p3.1 0 p3.2).bind fun σ4 =>
      (k_X10_tick_38 n) σ4 x1 x2 (x3 + (1 : Int32))
    else
      some (σ, (σ.1 8 0 1))
theorem e_X10_tick_38  (n : Nat) (σ : zH) (x1 : Int32) (x2 : Int32) (x3 : Int32)  : k_X10_tick_38 (n + 1) σ x1 x2 x3 = zin cc_X10_tick (fun t => if t = 38 then some (gl_X10_tick_38 (k_X10_tick_38 n)) else none) 0 krI b_X10_tick 38 σ [vR 10 0, vI x1, vI x2, vI x3] [] := by
  rw [k_X10_tick_38]
  refine Eq.symm ((zin_b (es := q_X10_tick_38) rfl).trans ?_)
  refine (t_X10_tick_38 _ _ _ _ _).trans ?_
  refine x_icmp.trans (pif_ge ?_ ?_)
  · refine (zrun_b (es := q_X10_tick_77) rfl rfl).trans ?_
    refine (t_X10_tick_77 _ _ _ _ _).trans ?_
    exact x_iret
  · refine (t_X10_tick_43 _ _ _ _ _).trans ?_
    refine (x_aald (N := 6) rfl rfl rfl rfl).trans (pix fun _ => ?_)
    refine (t_X10_tick_53 _ _ _ _ _ _ _).trans ?_
    refine (x_callV rfl rfl rfl rfl).trans ((cl_X10_tick_X8_passQuarters _ _ _).trans ((gr_X8_passQuarters _ _ _ _ _).trans (pbd fun _ => ?_)))
    refine (t_X10_tick_57 _ _ _ _ _).trans ?_
    refine (x_callV rfl rfl rfl rfl).trans ((cl_X10_tick_X8_upBits _ _ _).trans ((gr_X8_upBits _ _ _).trans (pbd fun _ => ?_)))
    refine (x_callV rfl rfl rfl rfl).trans ((cl_X10_tick_X6_add _ _ _).trans ((gr_X6_add _ _ _ _).trans (pbd fun _ => ?_)))
    refine (t_X10_tick_71 _ _ _ _ _ _).trans ?_
    refine x_goto.trans ?_
    exact (zrun_c rfl).trans (glr_X10_tick_38 _ _ _ _ _)
theorem s_X10_tick_38 {X : zX} (hX : zHX X)   : ∀ n σ L st r, gl_X10_tick_38 (k_X10_tick_38 n) σ L st = some r → zGW X 95 krI 38 σ L st r := by
  intro n
  induction n with
  | zero =>
    intro σ L st r h
    unfold gl_X10_tick_38 at h
    split at h <;> cases h
  | succ n ih =>
    intro σ L st r h
    unfold gl_X10_tick_38 at h
    split at h
    · exact zin_ok (hy_X10_tick hX) bk_X10_tick (fun t f hf => by
      by_cases e38 : t = 38
      · rw [if_pos e38] at hf; subst e38; cases hf; exact ih
      rw [if_neg e38] at hf
      cases hf) ((e_X10_tick_38 _ _ _ _ _).symm.trans h)
    · cases h
noncomputable def d_X10_tick (σ : zH) (xa1 : Int32) (xa2 : Int32) : Option (zH × Int32) :=
  (d_X10_isLaw σ xa1).bind fun p1 =>
  if p1.2 = 0 then
    some (p1.1, (-1 : Int32))
  else
    if xa2 < (1 : Int32) then
      some (p1.1, (-1 : Int32))
    else
      if (96 : Int32) < xa2 then
        some (p1.1, (-1 : Int32))
      else
        if (9999 : Int32) < ((p1.1.1 8 0 1) + xa2) then
          some (p1.1, (-1 : Int32))
        else
          (k_X10_tick_38 zN) p1.1 xa1 xa2 (0 : Int32)
theorem e_X10_tick (σ : zH) (xa1 : Int32) (xa2 : Int32) : d_X10_tick σ xa1 xa2 = zin cc_X10_tick (fun t => if t = 38 then some (gl_X10_tick_38 (k_X10_tick_38 zN)) else none) 0 krI b_X10_tick 0 σ [vR 10 0, vI xa1, vI xa2, vU] [] := by
  unfold d_X10_tick
  refine Eq.symm ((zin_b (es := q_X10_tick_0) rfl).trans ?_)
  refine (t_X10_tick_0 _ _ _ _ _).trans ?_
  refine (x_callV rfl rfl rfl rfl).trans ((cl_X10_tick_X10_isLaw _ _ _).trans ((gr_X10_isLaw _ _ _).trans (pbd fun _ => ?_)))
  refine x_if.trans (pif_eq ?_ ?_)
  · refine (zrun_b (es := q_X10_tick_34) rfl rfl).trans ?_
    refine (t_X10_tick_34 _ _ _ _ _ _ _).trans ?_
    exact x_iret
  · refine (t_X10_tick_8 _ _ _ _ _ _).trans ?_
    refine x_icmp.trans (pif_lt ?_ ?_)
    · refine (zrun_b (es := q_X10_tick_34) rfl rfl).trans ?_
      refine (t_X10_tick_34 _ _ _ _ _ _ _).trans ?_
      exact x_iret
    · refine (t_X10_tick_13 _ _ _ _ _ _).trans ?_
      refine x_icmp.trans (pif_gt ?_ ?_)
      · refine (zrun_b (es := q_X10_tick_34) rfl rfl).trans ?_
        refine (t_X10_tick_34 _ _ _ _ _ _ _).trans ?_
        exact x_iret
      · refine (t_X10_tick_19 _ _ _ _ _ _).trans ?_
        refine x_icmp.trans (pif_le ?_ ?_)
        · refine (zrun_b (es := q_X10_tick_36) rfl rfl).trans ?_
          refine (t_X10_tick_36 _ _ _ _ _ _).trans ?_
          refine x_cut.trans ?_
          exact (zrun_c rfl).trans (glr_X10_tick_38 _ _ _ _ _)
        · refine (t_X10_tick_34 _ _ _ _ _ _ _).trans ?_
          exact x_iret
noncomputable def g_X10_tick {ρ : Type} (σ : zH) (av : List zAV) (q : zH → zAV → Option ρ) : Option ρ := match av with
  | [.inr (.inr (.inl (10, 0))), .inl xa1, .inl xa2] => (d_X10_tick σ xa1 xa2).bind fun p => q p.1 (vI p.2)
  | _ => none
theorem gr_X10_tick {ρ : Type} (σ : zH) (xa1 : Int32) (xa2 : Int32) (q : zH → zAV → Option ρ) : g_X10_tick σ [vR 10 0, vI xa1, vI xa2] q = (d_X10_tick σ xa1 xa2).bind fun p => q p.1 (vI p.2) := rfl
theorem c_X10_tick {ρ : Type} {X : zX} (hX : zHX X) {σ : zH} {av : List zAV} {q : zH → zAV → Option ρ} {r : ρ} (h : g_X10_tick σ av q = some r) (hv : ∀ a ∈ av, zval X a) : zcon X 95 σ av q r := by
  unfold g_X10_tick at h
  split at h
  · exact zcon_I (n := 95) (ml := 4) (rc := 0) (st := 0) (kd := 10) (np := 2) (by decide +kernel) (by decide) ⟨_, _, rfl, rfl⟩ (Nat.le_of_ble_eq_true rfl) hv h (fun y h1 => (zin_ok (hy_X10_tick hX) bk_X10_tick (fun t f hf => by
      by_cases e38 : t = 38
      · rw [if_pos e38] at hf; subst e38; cases hf; exact ((fun σ L st r h => s_X10_tick_38 hX  zN σ L st r h))
      rw [if_neg e38] at hf
      cases hf) ((e_X10_tick _ _ _).symm.trans h1)))
  · cases h
/-! SleepWaves.isCompany(I)Z -/
def q_X10_isCompany_19 : List zEnt := zEa 19 (.goto 4) 3 23 :: []
def q_X10_isCompany_18 : List zEnt := zEk 18 (.iconst 1) 1 1 :: q_X10_isCompany_19
def q_X10_isCompany_15 : List zEnt := zEa 15 (.if_icmp .ge 7) 3 22 :: q_X10_isCompany_18
def q_X10_isCompany_4 : List zEnt := zE 4 (.iload_n 1) 1 :: zE 5 (.aload_n 0) 1 :: zEf 6 (.getfield 54) 3 10 6 142 (2, 8, 0) :: zEf 9 (.getfield 176) 3 8 0 87 (1, 0, 1) :: zEf 12 (.getfield 112) 3 0 0 33 (0, 0, 0) :: q_X10_isCompany_15
def q_X10_isCompany_1 : List zEnt := zEa 1 (.ifCond .lt 21) 3 22 :: q_X10_isCompany_4
def q_X10_isCompany_0 : List zEnt := zE 0 (.iload_n 1) 1 :: q_X10_isCompany_1
def q_X10_isCompany_23 : List zEnt := zE 23 .ireturn 1 :: []
def q_X10_isCompany_22 : List zEnt := zEk 22 (.iconst 0) 1 0 :: q_X10_isCompany_23
def b_X10_isCompany : List (Nat × List zEnt) := [(0, q_X10_isCompany_0), (22, q_X10_isCompany_22), (23, q_X10_isCompany_23)]
theorem bk_X10_isCompany : zchB 123 b_X10_isCompany = true := by decide +kernel
theorem hy_X10_isCompany {ρ : Type} {X : zX} (hX : zHX X) : zHY X 123 (zc0 (ρ := ρ)) := zHX.hY hX (zc0_ok X) (zmok_all 123 (by decide))
theorem t_X10_isCompany_0 {G : Nat → zH → List zAV → List zAV → Option (zH × Int32)} (es : List zEnt) (σ : zH) (x1 : Int32)   : zev zc0 G 1 krI (zE 0 (.iload_n 1) 1 :: es) σ [vR 10 0, vI x1] [] = zev zc0 G 1 krI es σ [vR 10 0, vI x1] [vI x1] := rfl
theorem t_X10_isCompany_4 {G : Nat → zH → List zAV → List zAV → Option (zH × Int32)} (es : List zEnt) (σ : zH) (x1 : Int32)   : zev zc0 G 1 krI (zE 4 (.iload_n 1) 1 :: zE 5 (.aload_n 0) 1 :: zEf 6 (.getfield 54) 3 10 6 142 (2, 8, 0) :: zEf 9 (.getfield 176) 3 8 0 87 (1, 0, 1) :: zEf 12 (.getfield 112) 3 0 0 33 (0, 0, 0) :: es) σ [vR 10 0, vI x1] [] = zev zc0 G 1 krI es σ [vR 10 0, vI x1] [vI (σ.1 0 (0 + 1) 0), vI x1] := rfl
theorem t_X10_isCompany_18 {G : Nat → zH → List zAV → List zAV → Option (zH × Int32)} (es : List zEnt) (σ : zH)  (y0 : zAV) (y1 : zAV) (w18 : Int32) : zev zc0 G 1 krI (zEk 18 (.iconst 1) 1 w18 :: es) σ [y0, y1] [] = zev zc0 G 1 krI es σ [y0, y1] [vI w18] := rfl
theorem t_X10_isCompany_22 {G : Nat → zH → List zAV → List zAV → Option (zH × Int32)} (es : List zEnt) (σ : zH)  (y0 : zAV) (y1 : zAV) (w22 : Int32) : zev zc0 G 1 krI (zEk 22 (.iconst 0) 1 w22 :: es) σ [y0, y1] [] = zev zc0 G 1 krI es σ [y0, y1] [vI w22] := rfl
noncomputable def d_X10_isCompany (σ : zH) (xa1 : Int32) : Option (zH × Int32) :=
  if xa1 < 0 then
    some (σ, (0 : Int32))
  else
    if xa1 < (σ.1 0 (0 + 1) 0) then
      some (σ, (1 : Int32))
    else
      some (σ, (0 : Int32))
theorem e_X10_isCompany (σ : zH) (xa1 : Int32) : d_X10_isCompany σ xa1 = zin zc0 (fun t => none) 1 krI b_X10_isCompany 0 σ [vR 10 0, vI xa1] [] := by
  unfold d_X10_isCompany
  refine Eq.symm ((zin_b (es := q_X10_isCompany_0) rfl).trans ?_)
  refine (t_X10_isCompany_0 _ _ _).trans ?_
  refine x_if.trans (pif_lt ?_ ?_)
  · refine (zrun_b (es := q_X10_isCompany_22) rfl rfl).trans ?_
    refine (t_X10_isCompany_22 _ _ _ _ _).trans ?_
    exact x_zret.trans (tv_l (by decide +kernel))
  · refine (t_X10_isCompany_4 _ _ _).trans ?_
    refine x_icmp.trans (pif_ge ?_ ?_)
    · refine (zrun_b (es := q_X10_isCompany_22) rfl rfl).trans ?_
      refine (t_X10_isCompany_22 _ _ _ _ _).trans ?_
      exact x_zret.trans (tv_l (by decide +kernel))
    · refine (t_X10_isCompany_18 _ _ _ _ _).trans ?_
      refine x_goto.trans ?_
      refine (zrun_b (es := q_X10_isCompany_23) rfl rfl).trans ?_
      exact x_zret.trans (tv_l (by decide +kernel))
noncomputable def g_X10_isCompany {ρ : Type} (σ : zH) (av : List zAV) (q : zH → zAV → Option ρ) : Option ρ := match av with
  | [.inr (.inr (.inl (10, 0))), .inl xa1] => (d_X10_isCompany σ xa1).bind fun p => q p.1 (vI p.2)
  | _ => none
theorem gr_X10_isCompany {ρ : Type} (σ : zH) (xa1 : Int32) (q : zH → zAV → Option ρ) : g_X10_isCompany σ [vR 10 0, vI xa1] q = (d_X10_isCompany σ xa1).bind fun p => q p.1 (vI p.2) := rfl
theorem c_X10_isCompany {ρ : Type} {X : zX} (hX : zHX X) {σ : zH} {av : List zAV} {q : zH → zAV → Option ρ} {r : ρ} (h : g_X10_isCompany σ av q = some r) (hv : ∀ a ∈ av, zval X a) : zcon X 123 σ av q r := by
  unfold g_X10_isCompany at h
  split at h
  · exact zcon_I (n := 123) (ml := 2) (rc := 1) (st := 0) (kd := 10) (np := 1) (by decide +kernel) (by decide) ⟨_, _, rfl, rfl⟩ (Nat.le_of_ble_eq_true rfl) hv h (fun y h1 => (zin_ok (hy_X10_isCompany hX) bk_X10_isCompany (fun t f hf => by
      cases hf) ((e_X10_isCompany _ _).symm.trans h1)))
  · cases h
/-! SleepWaves.lie(IZ)Z -/
def q_X10_lie_21 : List zEnt := zE 21 .ireturn 1 :: []
def q_X10_lie_20 : List zEnt := zEk 20 (.iconst 0) 1 0 :: q_X10_lie_21
def q_X10_lie_17 : List zEnt := zEa 17 (.if_icmp .ne 5) 3 22 :: q_X10_lie_20
def q_X10_lie_16 : List zEnt := zE 16 (.iload_n 2) 1 :: q_X10_lie_17
def q_X10_lie_13 : List zEnt := zEc 13 (.invokevirtual 141) 3 73 2 73 0 :: q_X10_lie_16
def q_X10_lie_8 : List zEnt := zE 8 (.aload_n 0) 1 :: zEf 9 (.getfield 54) 3 10 6 142 (2, 8, 0) :: zE 12 (.iload_n 1) 1 :: q_X10_lie_13
def q_X10_lie_5 : List zEnt := zEa 5 (.ifCond .eq 15) 3 20 :: q_X10_lie_8
def q_X10_lie_2 : List zEnt := zEc 2 (.invokevirtual 138) 3 123 2 72 0 :: q_X10_lie_5
def q_X10_lie_0 : List zEnt := zE 0 (.aload_n 0) 1 :: zE 1 (.iload_n 1) 1 :: q_X10_lie_2
def q_X10_lie_37 : List zEnt := zE 37 .ireturn 1 :: []
def q_X10_lie_36 : List zEnt := zEk 36 (.iconst 1) 1 1 :: q_X10_lie_37
def q_X10_lie_33 : List zEnt := zEc 33 (.invokevirtual 144) 3 79 4 74 1 :: q_X10_lie_36
def q_X10_lie_26 : List zEnt := zE 26 (.aload_n 0) 1 :: zEf 27 (.getfield 54) 3 10 6 142 (2, 8, 0) :: zE 30 (.iload_n 1) 1 :: zEk 31 (.iconst 1) 1 1 :: zEk 32 (.iconst (-1)) 1 (-1) :: q_X10_lie_33
def q_X10_lie_23 : List zEnt := zEa 23 (.ifCond .ne 15) 3 38 :: q_X10_lie_26
def q_X10_lie_22 : List zEnt := zE 22 (.iload_n 2) 1 :: q_X10_lie_23
def q_X10_lie_50 : List zEnt := zE 50 .ireturn 1 :: []
def q_X10_lie_49 : List zEnt := zEk 49 (.iconst 0) 1 0 :: q_X10_lie_50
def q_X10_lie_46 : List zEnt := zEa 46 (.ifCond .eq 5) 3 51 :: q_X10_lie_49
def q_X10_lie_43 : List zEnt := zEc 43 (.invokevirtual 148) 3 76 2 75 0 :: q_X10_lie_46
def q_X10_lie_38 : List zEnt := zE 38 (.aload_n 0) 1 :: zEf 39 (.getfield 54) 3 10 6 142 (2, 8, 0) :: zE 42 (.iload_n 1) 1 :: q_X10_lie_43
def q_X10_lie_62 : List zEnt := zE 62 .ireturn 1 :: []
def q_X10_lie_61 : List zEnt := zEk 61 (.iconst 1) 1 1 :: q_X10_lie_62
def q_X10_lie_58 : List zEnt := zEc 58 (.invokevirtual 151) 3 78 4 76 1 :: q_X10_lie_61
def q_X10_lie_51 : List zEnt := zE 51 (.aload_n 0) 1 :: zEf 52 (.getfield 54) 3 10 6 142 (2, 8, 0) :: zE 55 (.iload_n 1) 1 :: zEk 56 (.iconst 1) 1 1 :: zEk 57 (.iconst (-1)) 1 (-1) :: q_X10_lie_58
def b_X10_lie : List (Nat × List zEnt) := [(0, q_X10_lie_0), (20, q_X10_lie_20), (22, q_X10_lie_22), (38, q_X10_lie_38), (51, q_X10_lie_51)]
theorem bk_X10_lie : zchB 96 b_X10_lie = true := by decide +kernel
noncomputable def cc_X10_lie {ρ : Type} : Nat → zH → List zAV → (zH → zAV → Option ρ) → Option ρ := fun n σ av q => if n = 123 then g_X10_isCompany σ av q else if n = 73 then g_X8_isAsleep σ av q else if n = 79 then g_X8_getUp σ av q else if n = 76 then g_X8_bedIsTaken σ av q else if n = 78 then g_X8_lieDown σ av q else none
theorem cs_X10_lie {ρ : Type} {X : zX} (hX : zHX X) : zCS X (cc_X10_lie (ρ := ρ)) := by
  intro n σ av q r h hv
  unfold cc_X10_lie at h
  by_cases e_X10_isCompany : n = 123
  · rw [if_pos e_X10_isCompany] at h
    subst e_X10_isCompany
    exact c_X10_isCompany hX h hv
  rw [if_neg e_X10_isCompany] at h
  by_cases e_X8_isAsleep : n = 73
  · rw [if_pos e_X8_isAsleep] at h
    subst e_X8_isAsleep
    exact c_X8_isAsleep hX h hv
  rw [if_neg e_X8_isAsleep] at h
  by_cases e_X8_getUp : n = 79
  · rw [if_pos e_X8_getUp] at h
    subst e_X8_getUp
    exact c_X8_getUp hX h hv
  rw [if_neg e_X8_getUp] at h
  by_cases e_X8_bedIsTaken : n = 76
  · rw [if_pos e_X8_bedIsTaken] at h
    subst e_X8_bedIsTaken
    exact c_X8_bedIsTaken hX h hv
  rw [if_neg e_X8_bedIsTaken] at h
  by_cases e_X8_lieDown : n = 78
  · rw [if_pos e_X8_lieDown] at h
    subst e_X8_lieDown
    exact c_X8_lieDown hX h hv
  rw [if_neg e_X8_lieDown] at h
  cases h
theorem cl_X10_lie_X10_isCompany {ρ : Type} (σ : zH) (av : List zAV) (q : zH → zAV → Option ρ) : cc_X10_lie 123 σ av q = g_X10_isCompany σ av q := rfl
theorem cl_X10_lie_X8_isAsleep {ρ : Type} (σ : zH) (av : List zAV) (q : zH → zAV → Option ρ) : cc_X10_lie 73 σ av q = g_X8_isAsleep σ av q := rfl
theorem cl_X10_lie_X8_getUp {ρ : Type} (σ : zH) (av : List zAV) (q : zH → zAV → Option ρ) : cc_X10_lie 79 σ av q = g_X8_getUp σ av q := rfl
theorem cl_X10_lie_X8_bedIsTaken {ρ : Type} (σ : zH) (av : List zAV) (q : zH → zAV → Option ρ) : cc_X10_lie 76 σ av q = g_X8_bedIsTaken σ av q := rfl
theorem cl_X10_lie_X8_lieDown {ρ : Type} (σ : zH) (av : List zAV) (q : zH → zAV → Option ρ) : cc_X10_lie 78 σ av q = g_X8_lieDown σ av q := rfl
theorem hy_X10_lie {ρ : Type} {X : zX} (hX : zHX X) : zHY X 96 (cc_X10_lie (ρ := ρ)) := zHX.hY hX (cs_X10_lie hX) (zmok_all 96 (by decide))
theorem t_X10_lie_0 {G : Nat → zH → List zAV → List zAV → Option (zH × Int32)} (es : List zEnt) (σ : zH) (x1 : Int32) (x2 : Int32)   : zev cc_X10_lie G 1 krI (zE 0 (.aload_n 0) 1 :: zE 1 (.iload_n 1) 1 :: es) σ [vR 10 0, vI x1, vI x2] [] = zev cc_X10_lie G 1 krI es σ [vR 10 0, vI x1, vI x2] [vI x1, vR 10 0] := rfl
theorem t_X10_lie_8 {G : Nat → zH → List zAV → List zAV → Option (zH × Int32)} (es : List zEnt) (σ : zH) (x1 : Int32) (x2 : Int32)   : zev cc_X10_lie G 1 krI (zE 8 (.aload_n 0) 1 :: zEf 9 (.getfield 54) 3 10 6 142 (2, 8, 0) :: zE 12 (.iload_n 1) 1 :: es) σ [vR 10 0, vI x1, vI x2] [] = zev cc_X10_lie G 1 krI es σ [vR 10 0, vI x1, vI x2] [vI x1, vR 8 0] := rfl
theorem t_X10_lie_16 {G : Nat → zH → List zAV → List zAV → Option (zH × Int32)} (es : List zEnt) (σ : zH) (x1 : Int32) (x2 : Int32) (xs0 : Int32)   : zev cc_X10_lie G 1 krI (zE 16 (.iload_n 2) 1 :: es) σ [vR 10 0, vI x1, vI x2] [vI xs0] = zev cc_X10_lie G 1 krI es σ [vR 10 0, vI x1, vI x2] [vI x2, vI xs0] := rfl
theorem t_X10_lie_20 {G : Nat → zH → List zAV → List zAV → Option (zH × Int32)} (es : List zEnt) (σ : zH)  (y0 : zAV) (y1 : zAV) (y2 : zAV) (w20 : Int32) : zev cc_X10_lie G 1 krI (zEk 20 (.iconst 0) 1 w20 :: es) σ [y0, y1, y2] [] = zev cc_X10_lie G 1 krI es σ [y0, y1, y2] [vI w20] := rfl
theorem t_X10_lie_22 {G : Nat → zH → List zAV → List zAV → Option (zH × Int32)} (es : List zEnt) (σ : zH) (x1 : Int32) (x2 : Int32)   : zev cc_X10_lie G 1 krI (zE 22 (.iload_n 2) 1 :: es) σ [vR 10 0, vI x1, vI x2] [] = zev cc_X10_lie G 1 krI es σ [vR 10 0, vI x1, vI x2] [vI x2] := rfl
theorem t_X10_lie_26 {G : Nat → zH → List zAV → List zAV → Option (zH × Int32)} (es : List zEnt) (σ : zH) (x1 : Int32) (y2 : zAV) (w31 : Int32) (w32 : Int32) : zev cc_X10_lie G 1 krI (zE 26 (.aload_n 0) 1 :: zEf 27 (.getfield 54) 3 10 6 142 (2, 8, 0) :: zE 30 (.iload_n 1) 1 :: zEk 31 (.iconst 1) 1 w31 :: zEk 32 (.iconst (-1)) 1 w32 :: es) σ [vR 10 0, vI x1, y2] [] = zev cc_X10_lie G 1 krI es σ [vR 10 0, vI x1, y2] [vI w32, vI w31, vI x1, vR 8 0] := rfl
theorem t_X10_lie_36 {G : Nat → zH → List zAV → List zAV → Option (zH × Int32)} (es : List zEnt) (σ : zH)  (y0 : zAV) (y1 : zAV) (y2 : zAV) (w36 : Int32) : zev cc_X10_lie G 1 krI (zEk 36 (.iconst 1) 1 w36 :: es) σ [y0, y1, y2] [] = zev cc_X10_lie G 1 krI es σ [y0, y1, y2] [vI w36] := rfl
theorem t_X10_lie_38 {G : Nat → zH → List zAV → List zAV → Option (zH × Int32)} (es : List zEnt) (σ : zH) (x1 : Int32) (y2 : zAV)  : zev cc_X10_lie G 1 krI (zE 38 (.aload_n 0) 1 :: zEf 39 (.getfield 54) 3 10 6 142 (2, 8, 0) :: zE 42 (.iload_n 1) 1 :: es) σ [vR 10 0, vI x1, y2] [] = zev cc_X10_lie G 1 krI es σ [vR 10 0, vI x1, y2] [vI x1, vR 8 0] := rfl
theorem t_X10_lie_49 {G : Nat → zH → List zAV → List zAV → Option (zH × Int32)} (es : List zEnt) (σ : zH)  (y0 : zAV) (y1 : zAV) (y2 : zAV) (w49 : Int32) : zev cc_X10_lie G 1 krI (zEk 49 (.iconst 0) 1 w49 :: es) σ [y0, y1, y2] [] = zev cc_X10_lie G 1 krI es σ [y0, y1, y2] [vI w49] := rfl
theorem t_X10_lie_51 {G : Nat → zH → List zAV → List zAV → Option (zH × Int32)} (es : List zEnt) (σ : zH) (x1 : Int32) (y2 : zAV) (w56 : Int32) (w57 : Int32) : zev cc_X10_lie G 1 krI (zE 51 (.aload_n 0) 1 :: zEf 52 (.getfield 54) 3 10 6 142 (2, 8, 0) :: zE 55 (.iload_n 1) 1 :: zEk 56 (.iconst 1) 1 w56 :: zEk 57 (.iconst (-1)) 1 w57 :: es) σ [vR 10 0, vI x1, y2] [] = zev cc_X10_lie G 1 krI es σ [vR 10 0, vI x1, y2] [vI w57, vI w56, vI x1, vR 8 0] := rfl
theorem t_X10_lie_61 {G : Nat → zH → List zAV → List zAV → Option (zH × Int32)} (es : List zEnt) (σ : zH)  (y0 : zAV) (y1 : zAV) (y2 : zAV) (w61 : Int32) : zev cc_X10_lie G 1 krI (zEk 61 (.iconst 1) 1 w61 :: es) σ [y0, y1, y2] [] = zev cc_X10_lie G 1 krI es σ [y0, y1, y2] [vI w61] := rfl
noncomputable def d_X10_lie (σ : zH) (xa1 : Int32) (xa2 : Int32) : Option (zH × Int32) :=
  (d_X10_isCompany σ xa1).bind fun p1 =>
  if p1.2 = 0 then
    some (p1.1, (0 : Int32))
  else
    (d_X8_isAsleep p1.1 0 xa1).bind fun p2 =>
    if p2.2 = xa2 then
      some (p2.1, (0 : Int32))
    else
      if xa2 = 0 then
        (d_X8_getUp p2.1 0 xa1 (1 : Int32) (-1 : Int32)).bind fun σ5 =>
        some (σ5, (1 : Int32))
      else
        (d_X8_bedIsTaken p2.1 0 xa1).bind fun p3 =>
        if p3.2 = 0 then
          (d_X8_lieDown p3.1 0 xa1 (1 : Int32) (-1 : Int32)).bind fun σ4 =>
          some (σ4, (1 : Int32))
        else
          some (p3.1, (0 : Int32))
theorem e_X10_lie (σ : zH) (xa1 : Int32) (xa2 : Int32) : d_X10_lie σ xa1 xa2 = zin cc_X10_lie (fun t => none) 1 krI b_X10_lie 0 σ [vR 10 0, vI xa1, vI xa2] [] := by
  unfold d_X10_lie
  refine Eq.symm ((zin_b (es := q_X10_lie_0) rfl).trans ?_)
  refine (t_X10_lie_0 _ _ _ _).trans ?_
  refine (x_callV rfl rfl rfl rfl).trans ((cl_X10_lie_X10_isCompany _ _ _).trans ((gr_X10_isCompany _ _ _).trans (pbd fun _ => ?_)))
  refine x_if.trans (pif_eq ?_ ?_)
  · refine (zrun_b (es := q_X10_lie_20) rfl rfl).trans ?_
    refine (t_X10_lie_20 _ _ _ _ _ _).trans ?_
    exact x_zret.trans (tv_l (by decide +kernel))
  · refine (t_X10_lie_8 _ _ _ _).trans ?_
    refine (x_callV rfl rfl rfl rfl).trans ((cl_X10_lie_X8_isAsleep _ _ _).trans ((gr_X8_isAsleep _ _ _ _).trans (pbd fun _ => ?_)))
    refine (t_X10_lie_16 _ _ _ _ _).trans ?_
    refine x_icmp.trans (pif_ne ?_ ?_)
    · refine (zrun_b (es := q_X10_lie_22) rfl rfl).trans ?_
      refine (t_X10_lie_22 _ _ _ _).trans ?_
      refine x_if.trans (pif_ne ?_ ?_)
      · refine (zrun_b (es := q_X10_lie_38) rfl rfl).trans ?_
        refine (t_X10_lie_38 _ _ _ _).trans ?_
        refine (x_callV rfl rfl rfl rfl).trans ((cl_X10_lie_X8_bedIsTaken _ _ _).trans ((gr_X8_bedIsTaken _ _ _ _).trans (pbd fun _ => ?_)))
        refine x_if.trans (pif_eq ?_ ?_)
        · refine (zrun_b (es := q_X10_lie_51) rfl rfl).trans ?_
          refine (t_X10_lie_51 _ _ _ _ _ _).trans ?_
          refine (x_callV rfl rfl rfl rfl).trans ((cl_X10_lie_X8_lieDown _ _ _).trans ((gr_X8_lieDown _ _ _ _ _ _).trans (pbd fun _ => ?_)))
          refine (t_X10_lie_61 _ _ _ _ _ _).trans ?_
          exact x_zret.trans (tv_l (by decide +kernel))
        · refine (t_X10_lie_49 _ _ _ _ _ _).trans ?_
          exact x_zret.trans (tv_l (by decide +kernel))
      · refine (t_X10_lie_26 _ _ _ _ _ _).trans ?_
        refine (x_callV rfl rfl rfl rfl).trans ((cl_X10_lie_X8_getUp _ _ _).trans ((gr_X8_getUp _ _ _ _ _ _).trans (pbd fun _ => ?_)))
        refine (t_X10_lie_36 _ _ _ _ _ _).trans ?_
        exact x_zret.trans (tv_l (by decide +kernel))
    · refine (t_X10_lie_20 _ _ _ _ _ _).trans ?_
      exact x_zret.trans (tv_l (by decide +kernel))
noncomputable def g_X10_lie {ρ : Type} (σ : zH) (av : List zAV) (q : zH → zAV → Option ρ) : Option ρ := match av with
  | [.inr (.inr (.inl (10, 0))), .inl xa1, .inl xa2] => (d_X10_lie σ xa1 xa2).bind fun p => q p.1 (vI p.2)
  | _ => none
theorem gr_X10_lie {ρ : Type} (σ : zH) (xa1 : Int32) (xa2 : Int32) (q : zH → zAV → Option ρ) : g_X10_lie σ [vR 10 0, vI xa1, vI xa2] q = (d_X10_lie σ xa1 xa2).bind fun p => q p.1 (vI p.2) := rfl
theorem c_X10_lie {ρ : Type} {X : zX} (hX : zHX X) {σ : zH} {av : List zAV} {q : zH → zAV → Option ρ} {r : ρ} (h : g_X10_lie σ av q = some r) (hv : ∀ a ∈ av, zval X a) : zcon X 96 σ av q r := by
  unfold g_X10_lie at h
  split at h
  · exact zcon_I (n := 96) (ml := 3) (rc := 1) (st := 0) (kd := 10) (np := 2) (by decide +kernel) (by decide) ⟨_, _, rfl, rfl⟩ (Nat.le_of_ble_eq_true rfl) hv h (fun y h1 => (zin_ok (hy_X10_lie hX) bk_X10_lie (fun t f hf => by
      cases hf) ((e_X10_lie _ _ _).symm.trans h1)))
  · cases h
/-! SleepWaves.tires(II)I -/
def q_X10_tires_20 : List zEnt := zE 20 .ireturn 1 :: []
def q_X10_tires_19 : List zEnt := zEk 19 (.iconst (-1)) 1 (-1) :: q_X10_tires_20
def q_X10_tires_16 : List zEnt := zEa 16 (.if_icmp .le 5) 3 21 :: q_X10_tires_19
def q_X10_tires_12 : List zEnt := zE 12 (.iload_n 2) 1 :: zEk 13 (.sipush 999) 3 999 :: q_X10_tires_16
def q_X10_tires_9 : List zEnt := zEa 9 (.ifCond .lt 10) 3 19 :: q_X10_tires_12
def q_X10_tires_8 : List zEnt := zE 8 (.iload_n 2) 1 :: q_X10_tires_9
def q_X10_tires_5 : List zEnt := zEa 5 (.ifCond .eq 14) 3 19 :: q_X10_tires_8
def q_X10_tires_2 : List zEnt := zEc 2 (.invokevirtual 138) 3 123 2 72 0 :: q_X10_tires_5
def q_X10_tires_0 : List zEnt := zE 0 (.aload_n 0) 1 :: zE 1 (.iload_n 1) 1 :: q_X10_tires_2
def q_X10_tires_42 : List zEnt := zE 42 .ireturn 1 :: []
def q_X10_tires_41 : List zEnt := zE 41 (.iload_n 3) 1 :: q_X10_tires_42
def q_X10_tires_40 : List zEnt := zE 40 .iastore 1 :: q_X10_tires_41
def q_X10_tires_30 : List zEnt := zE 30 (.istore_n 3) 1 :: zE 31 (.aload_n 0) 1 :: zEf 32 (.getfield 54) 3 10 6 142 (2, 8, 0) :: zEf 35 (.getfield 154) 3 8 6 101 (1, 31, 0) :: zE 38 (.iload_n 1) 1 :: zE 39 (.iload_n 2) 1 :: q_X10_tires_40
def q_X10_tires_29 : List zEnt := zE 29 .iaload 1 :: q_X10_tires_30
def q_X10_tires_21 : List zEnt := zE 21 (.aload_n 0) 1 :: zEf 22 (.getfield 54) 3 10 6 142 (2, 8, 0) :: zEf 25 (.getfield 154) 3 8 6 101 (1, 31, 0) :: zE 28 (.iload_n 1) 1 :: q_X10_tires_29
def b_X10_tires : List (Nat × List zEnt) := [(0, q_X10_tires_0), (19, q_X10_tires_19), (21, q_X10_tires_21)]
theorem bk_X10_tires : zchB 97 b_X10_tires = true := by decide +kernel
noncomputable def cc_X10_tires {ρ : Type} : Nat → zH → List zAV → (zH → zAV → Option ρ) → Option ρ := fun n σ av q => if n = 123 then g_X10_isCompany σ av q else none
theorem cs_X10_tires {ρ : Type} {X : zX} (hX : zHX X) : zCS X (cc_X10_tires (ρ := ρ)) := by
  intro n σ av q r h hv
  unfold cc_X10_tires at h
  by_cases e_X10_isCompany : n = 123
  · rw [if_pos e_X10_isCompany] at h
    subst e_X10_isCompany
    exact c_X10_isCompany hX h hv
  rw [if_neg e_X10_isCompany] at h
  cases h
theorem cl_X10_tires_X10_isCompany {ρ : Type} (σ : zH) (av : List zAV) (q : zH → zAV → Option ρ) : cc_X10_tires 123 σ av q = g_X10_isCompany σ av q := rfl
theorem hy_X10_tires {ρ : Type} {X : zX} (hX : zHX X) : zHY X 97 (cc_X10_tires (ρ := ρ)) := zHX.hY hX (cs_X10_tires hX) (zmok_all 97 (by decide))
theorem t_X10_tires_0 {G : Nat → zH → List zAV → List zAV → Option (zH × Int32)} (es : List zEnt) (σ : zH) (x1 : Int32) (x2 : Int32) (y3 : zAV)  : zev cc_X10_tires G 0 krI (zE 0 (.aload_n 0) 1 :: zE 1 (.iload_n 1) 1 :: es) σ [vR 10 0, vI x1, vI x2, y3] [] = zev cc_X10_tires G 0 krI es σ [vR 10 0, vI x1, vI x2, y3] [vI x1, vR 10 0] := rfl
theorem t_X10_tires_8 {G : Nat → zH → List zAV → List zAV → Option (zH × Int32)} (es : List zEnt) (σ : zH) (x1 : Int32) (x2 : Int32) (y3 : zAV)  : zev cc_X10_tires G 0 krI (zE 8 (.iload_n 2) 1 :: es) σ [vR 10 0, vI x1, vI x2, y3] [] = zev cc_X10_tires G 0 krI es σ [vR 10 0, vI x1, vI x2, y3] [vI x2] := rfl
theorem t_X10_tires_12 {G : Nat → zH → List zAV → List zAV → Option (zH × Int32)} (es : List zEnt) (σ : zH) (x1 : Int32) (x2 : Int32) (y3 : zAV) (w13 : Int32) : zev cc_X10_tires G 0 krI (zE 12 (.iload_n 2) 1 :: zEk 13 (.sipush 999) 3 w13 :: es) σ [vR 10 0, vI x1, vI x2, y3] [] = zev cc_X10_tires G 0 krI es σ [vR 10 0, vI x1, vI x2, y3] [vI w13, vI x2] := rfl
theorem t_X10_tires_19 {G : Nat → zH → List zAV → List zAV → Option (zH × Int32)} (es : List zEnt) (σ : zH)  (y0 : zAV) (y1 : zAV) (y2 : zAV) (y3 : zAV) (w19 : Int32) : zev cc_X10_tires G 0 krI (zEk 19 (.iconst (-1)) 1 w19 :: es) σ [y0, y1, y2, y3] [] = zev cc_X10_tires G 0 krI es σ [y0, y1, y2, y3] [vI w19] := rfl
theorem t_X10_tires_21 {G : Nat → zH → List zAV → List zAV → Option (zH × Int32)} (es : List zEnt) (σ : zH) (x1 : Int32) (x2 : Int32) (y3 : zAV)  : zev cc_X10_tires G 0 krI (zE 21 (.aload_n 0) 1 :: zEf 22 (.getfield 54) 3 10 6 142 (2, 8, 0) :: zEf 25 (.getfield 154) 3 8 6 101 (1, 31, 0) :: zE 28 (.iload_n 1) 1 :: es) σ [vR 10 0, vI x1, vI x2, y3] [] = zev cc_X10_tires G 0 krI es σ [vR 10 0, vI x1, vI x2, y3] [vI x1, vR 31 (0 + 0)] := rfl
theorem t_X10_tires_30 {G : Nat → zH → List zAV → List zAV → Option (zH × Int32)} (es : List zEnt) (σ : zH) (x1 : Int32) (x2 : Int32) (xs0 : Int32) (y3 : zAV)  : zev cc_X10_tires G 0 krI (zE 30 (.istore_n 3) 1 :: zE 31 (.aload_n 0) 1 :: zEf 32 (.getfield 54) 3 10 6 142 (2, 8, 0) :: zEf 35 (.getfield 154) 3 8 6 101 (1, 31, 0) :: zE 38 (.iload_n 1) 1 :: zE 39 (.iload_n 2) 1 :: es) σ [vR 10 0, vI x1, vI x2, y3] [vI xs0] = zev cc_X10_tires G 0 krI es σ [vR 10 0, vI x1, vI x2, vI xs0] [vI x2, vI x1, vR 31 (0 + 0)] := rfl
theorem t_X10_tires_41 {G : Nat → zH → List zAV → List zAV → Option (zH × Int32)} (es : List zEnt) (σ : zH) (x3 : Int32) (y0 : zAV) (y1 : zAV) (y2 : zAV)  : zev cc_X10_tires G 0 krI (zE 41 (.iload_n 3) 1 :: es) σ [y0, y1, y2, vI x3] [] = zev cc_X10_tires G 0 krI es σ [y0, y1, y2, vI x3] [vI x3] := rfl
noncomputable def d_X10_tires (σ : zH) (xa1 : Int32) (xa2 : Int32) : Option (zH × Int32) :=
  (d_X10_isCompany σ xa1).bind fun p1 =>
  if p1.2 = 0 then
    some (p1.1, (-1 : Int32))
  else
    if xa2 < 0 then
      some (p1.1, (-1 : Int32))
    else
      if (999 : Int32) < xa2 then
        some (p1.1, (-1 : Int32))
      else
        ix xa1 12 fun j2 =>
        ix xa1 12 fun j4 =>
        zlet (uI p1.1 31 (0 + 0) j4 xa2) fun σ3 =>
        some (σ3, (p1.1.1 31 (0 + 0) j2))
theorem e_X10_tires (σ : zH) (xa1 : Int32) (xa2 : Int32) : d_X10_tires σ xa1 xa2 = zin cc_X10_tires (fun t => none) 0 krI b_X10_tires 0 σ [vR 10 0, vI xa1, vI xa2, vU] [] := by
  unfold d_X10_tires
  refine Eq.symm ((zin_b (es := q_X10_tires_0) rfl).trans ?_)
  refine (t_X10_tires_0 _ _ _ _ _).trans ?_
  refine (x_callV rfl rfl rfl rfl).trans ((cl_X10_tires_X10_isCompany _ _ _).trans ((gr_X10_isCompany _ _ _).trans (pbd fun _ => ?_)))
  refine x_if.trans (pif_eq ?_ ?_)
  · refine (zrun_b (es := q_X10_tires_19) rfl rfl).trans ?_
    refine (t_X10_tires_19 _ _ _ _ _ _ _).trans ?_
    exact x_iret
  · refine (t_X10_tires_8 _ _ _ _ _).trans ?_
    refine x_if.trans (pif_lt ?_ ?_)
    · refine (zrun_b (es := q_X10_tires_19) rfl rfl).trans ?_
      refine (t_X10_tires_19 _ _ _ _ _ _ _).trans ?_
      exact x_iret
    · refine (t_X10_tires_12 _ _ _ _ _ _).trans ?_
      refine x_icmp.trans (pif_le ?_ ?_)
      · refine (zrun_b (es := q_X10_tires_21) rfl rfl).trans ?_
        refine (t_X10_tires_21 _ _ _ _ _).trans ?_
        refine (x_iald (N := 12) rfl rfl).trans (pix fun _ => ?_)
        refine (t_X10_tires_30 _ _ _ _ _ _).trans ?_
        refine (x_iast (N := 12) rfl rfl).trans (pix fun _ => plt fun _ => ?_)
        refine (t_X10_tires_41 _ _ _ _ _ _).trans ?_
        exact x_iret
      · refine (t_X10_tires_19 _ _ _ _ _ _ _).trans ?_
        exact x_iret
noncomputable def g_X10_tires {ρ : Type} (σ : zH) (av : List zAV) (q : zH → zAV → Option ρ) : Option ρ := match av with
  | [.inr (.inr (.inl (10, 0))), .inl xa1, .inl xa2] => (d_X10_tires σ xa1 xa2).bind fun p => q p.1 (vI p.2)
  | _ => none
theorem gr_X10_tires {ρ : Type} (σ : zH) (xa1 : Int32) (xa2 : Int32) (q : zH → zAV → Option ρ) : g_X10_tires σ [vR 10 0, vI xa1, vI xa2] q = (d_X10_tires σ xa1 xa2).bind fun p => q p.1 (vI p.2) := rfl
theorem c_X10_tires {ρ : Type} {X : zX} (hX : zHX X) {σ : zH} {av : List zAV} {q : zH → zAV → Option ρ} {r : ρ} (h : g_X10_tires σ av q = some r) (hv : ∀ a ∈ av, zval X a) : zcon X 97 σ av q r := by
  unfold g_X10_tires at h
  split at h
  · exact zcon_I (n := 97) (ml := 4) (rc := 0) (st := 0) (kd := 10) (np := 2) (by decide +kernel) (by decide) ⟨_, _, rfl, rfl⟩ (Nat.le_of_ble_eq_true rfl) hv h (fun y h1 => (zin_ok (hy_X10_tires hX) bk_X10_tires (fun t f hf => by
      cases hf) ((e_X10_tires _ _ _).symm.trans h1)))
  · cases h
