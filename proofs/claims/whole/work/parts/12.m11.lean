/-! SleepWavesModel.run(I)I -/
def q_X11_run_9 : List zEnt := zE 9 .ireturn 1 :: []
def q_X11_run_8 : List zEnt := zEk 8 (.iconst (-1)) 1 (-1) :: q_X11_run_9
def q_X11_run_5 : List zEnt := zEa 5 (.ifCond .ne 5) 3 10 :: q_X11_run_8
def q_X11_run_2 : List zEnt := zEc 2 (.invokevirtual 426) 3 127 2 167 0 :: q_X11_run_5
def q_X11_run_0 : List zEnt := zE 0 (.aload_n 0) 1 :: zE 1 (.iload_n 1) 1 :: q_X11_run_2
def q_X11_run_10 : List zEnt := zEk 10 (.iconst 0) 1 0 :: zE 11 (.istore_n 2) 1 :: zEk 12 (.iconst 0) 1 0 :: zE 13 (.istore_n 3) 1 :: zEk 14 (.iconst 0) 1 0 :: zE 15 (.istore 4) 2 :: [zE 17 .nop 0]
def q_X11_run_46 : List zEnt := zEa 46 (.goto 4) 3 50 :: []
def q_X11_run_43 : List zEnt := zE 43 (.iload_n 3) 1 :: zEk 44 (.iconst 1) 1 1 :: zE 45 .iadd 1 :: q_X11_run_46
def q_X11_run_40 : List zEnt := zEa 40 (.ifCond .eq 9) 3 49 :: q_X11_run_43
def q_X11_run_37 : List zEnt := zEc 37 (.invokestatic 177) 3 126 2 154 0 :: q_X11_run_40
def q_X11_run_36 : List zEnt := zE 36 (.iload_n 1) 1 :: q_X11_run_37
def q_X11_run_35 : List zEnt := zE 35 .iaload 1 :: q_X11_run_36
def q_X11_run_29 : List zEnt := zE 29 (.aload_n 0) 1 :: zEf 30 (.getfield 82) 3 11 25 173 (2, 66, 0) :: zE 33 (.iload 4) 2 :: q_X11_run_35
def q_X11_run_26 : List zEnt := zEa 26 (.if_icmp .ge 42) 3 68 :: q_X11_run_29
def q_X11_run_25 : List zEnt := zE 25 .iaload 1 :: q_X11_run_26
def q_X11_run_17 : List zEnt := zE 17 (.iload 4) 2 :: zE 19 (.aload_n 0) 1 :: zEf 20 (.getfield 7) 3 11 1 149 (2, 42, 0) :: zEk 23 (.bipush 9) 2 9 :: q_X11_run_25
def q_X11_run_49 : List zEnt := zEk 49 (.iconst 0) 1 0 :: [zE 50 .nop 0]
def q_X11_run_57 : List zEnt := zEa 57 (.goto 4) 3 61 :: []
def q_X11_run_56 : List zEnt := zE 56 (.iload_n 3) 1 :: q_X11_run_57
def q_X11_run_53 : List zEnt := zEa 53 (.if_icmp .le 7) 3 60 :: q_X11_run_56
def q_X11_run_50 : List zEnt := zE 50 (.istore_n 3) 1 :: zE 51 (.iload_n 3) 1 :: zE 52 (.iload_n 2) 1 :: q_X11_run_53
def q_X11_run_60 : List zEnt := zE 60 (.iload_n 2) 1 :: [zE 61 .nop 0]
def q_X11_run_65 : List zEnt := zEa 65 (.goto (-48)) 3 17 :: []
def q_X11_run_61 : List zEnt := zE 61 (.istore_n 2) 1 :: zEk 62 (.iinc 4 1) 3 1 :: q_X11_run_65
def q_X11_run_69 : List zEnt := zE 69 .ireturn 1 :: []
def q_X11_run_68 : List zEnt := zE 68 (.iload_n 2) 1 :: q_X11_run_69
def b_X11_run : List (Nat × List zEnt) := [(0, q_X11_run_0), (10, q_X11_run_10), (17, q_X11_run_17), (49, q_X11_run_49), (50, q_X11_run_50), (60, q_X11_run_60), (61, q_X11_run_61), (68, q_X11_run_68)]
theorem bk_X11_run : zchB 205 b_X11_run = true := by decide +kernel
noncomputable def cc_X11_run {ρ : Type} : Nat → zH → List zAV → (zH → zAV → Option ρ) → Option ρ := fun n σ av q => if n = 127 then g_X11_isCompany σ av q else if n = 126 then g_X11_has σ av q else none
theorem cs_X11_run {ρ : Type} {X : zX} (hX : zHX X) : zCS X (cc_X11_run (ρ := ρ)) := by
  intro n σ av q r h hv
  unfold cc_X11_run at h
  by_cases e_X11_isCompany : n = 127
  · rw [if_pos e_X11_isCompany] at h
    subst e_X11_isCompany
    exact c_X11_isCompany hX h hv
  rw [if_neg e_X11_isCompany] at h
  by_cases e_X11_has : n = 126
  · rw [if_pos e_X11_has] at h
    subst e_X11_has
    exact c_X11_has hX h hv
  rw [if_neg e_X11_has] at h
  cases h
theorem cl_X11_run_X11_isCompany {ρ : Type} (σ : zH) (av : List zAV) (q : zH → zAV → Option ρ) : cc_X11_run 127 σ av q = g_X11_isCompany σ av q := rfl
theorem cl_X11_run_X11_has {ρ : Type} (σ : zH) (av : List zAV) (q : zH → zAV → Option ρ) : cc_X11_run 126 σ av q = g_X11_has σ av q := rfl
theorem hy_X11_run {ρ : Type} {X : zX} (hX : zHX X) : zHY X 205 (cc_X11_run (ρ := ρ)) := zHX.hY hX (cs_X11_run hX) (zmok_all 205 (by decide))
def gl_X11_run_17 {ρ : Type} (f : zH → Int32 → Int32 → Int32 → Int32 → Option ρ) (σ : zH) (L st : List zAV) : Option ρ := match L, st with
  | [.inr (.inr (.inl (11, 0))), .inl x1, .inl x2, .inl x3, .inl x4], [] => f σ x1 x2 x3 x4
  | _, _ => none
def gl_X11_run_50 {ρ : Type} (f : zH → Int32 → Int32 → Int32 → Int32 → Option ρ) (σ : zH) (L st : List zAV) : Option ρ := match L, st with
  | [.inr (.inr (.inl (11, 0))), .inl x1, .inl x2, _, .inl x4], [.inl xs0] => f σ x1 x2 x4 xs0
  | _, _ => none
def gl_X11_run_61 {ρ : Type} (f : zH → Int32 → Int32 → Int32 → Int32 → Option ρ) (σ : zH) (L st : List zAV) : Option ρ := match L, st with
  | [.inr (.inr (.inl (11, 0))), .inl x1, _, .inl x3, .inl x4], [.inl xs0] => f σ x1 x3 x4 xs0
  | _, _ => none
theorem glr_X11_run_17 {ρ : Type} (f : zH → Int32 → Int32 → Int32 → Int32 → Option ρ) (σ : zH) (x1 : Int32) (x2 : Int32) (x3 : Int32) (x4 : Int32)  : gl_X11_run_17 f σ [vR 11 0, vI x1, vI x2, vI x3, vI x4] [] = f σ x1 x2 x3 x4 := rfl
theorem glr_X11_run_50 {ρ : Type} (f : zH → Int32 → Int32 → Int32 → Int32 → Option ρ) (σ : zH) (x1 : Int32) (x2 : Int32) (x4 : Int32) (xs0 : Int32) (y3 : zAV) : gl_X11_run_50 f σ [vR 11 0, vI x1, vI x2, y3, vI x4] [vI xs0] = f σ x1 x2 x4 xs0 := rfl
theorem glr_X11_run_61 {ρ : Type} (f : zH → Int32 → Int32 → Int32 → Int32 → Option ρ) (σ : zH) (x1 : Int32) (x3 : Int32) (x4 : Int32) (xs0 : Int32) (y2 : zAV) : gl_X11_run_61 f σ [vR 11 0, vI x1, y2, vI x3, vI x4] [vI xs0] = f σ x1 x3 x4 xs0 := rfl
theorem t_X11_run_0 {G : Nat → zH → List zAV → List zAV → Option (zH × Int32)} (es : List zEnt) (σ : zH) (x1 : Int32) (y2 : zAV) (y3 : zAV) (y4 : zAV)  : zev cc_X11_run G 0 krI (zE 0 (.aload_n 0) 1 :: zE 1 (.iload_n 1) 1 :: es) σ [vR 11 0, vI x1, y2, y3, y4] [] = zev cc_X11_run G 0 krI es σ [vR 11 0, vI x1, y2, y3, y4] [vI x1, vR 11 0] := rfl
theorem t_X11_run_8 {G : Nat → zH → List zAV → List zAV → Option (zH × Int32)} (es : List zEnt) (σ : zH)  (y0 : zAV) (y1 : zAV) (y2 : zAV) (y3 : zAV) (y4 : zAV) (w8 : Int32) : zev cc_X11_run G 0 krI (zEk 8 (.iconst (-1)) 1 w8 :: es) σ [y0, y1, y2, y3, y4] [] = zev cc_X11_run G 0 krI es σ [y0, y1, y2, y3, y4] [vI w8] := rfl
theorem t_X11_run_10 {G : Nat → zH → List zAV → List zAV → Option (zH × Int32)} (es : List zEnt) (σ : zH) (x1 : Int32) (y2 : zAV) (y3 : zAV) (y4 : zAV) (w10 : Int32) (w12 : Int32) (w14 : Int32) : zev cc_X11_run G 0 krI (zEk 10 (.iconst 0) 1 w10 :: zE 11 (.istore_n 2) 1 :: zEk 12 (.iconst 0) 1 w12 :: zE 13 (.istore_n 3) 1 :: zEk 14 (.iconst 0) 1 w14 :: zE 15 (.istore 4) 2 :: es) σ [vR 11 0, vI x1, y2, y3, y4] [] = zev cc_X11_run G 0 krI es σ [vR 11 0, vI x1, vI w10, vI w12, vI w14] [] := rfl
theorem t_X11_run_17 {G : Nat → zH → List zAV → List zAV → Option (zH × Int32)} (es : List zEnt) (σ : zH) (x1 : Int32) (x2 : Int32) (x3 : Int32) (x4 : Int32)  (w23 : Int32) : zev cc_X11_run G 0 krI (zE 17 (.iload 4) 2 :: zE 19 (.aload_n 0) 1 :: zEf 20 (.getfield 7) 3 11 1 149 (2, 42, 0) :: zEk 23 (.bipush 9) 2 w23 :: es) σ [vR 11 0, vI x1, vI x2, vI x3, vI x4] [] = zev cc_X11_run G 0 krI es σ [vR 11 0, vI x1, vI x2, vI x3, vI x4] [vI w23, vR 42 0, vI x4] := rfl
theorem t_X11_run_29 {G : Nat → zH → List zAV → List zAV → Option (zH × Int32)} (es : List zEnt) (σ : zH) (x1 : Int32) (x2 : Int32) (x3 : Int32) (x4 : Int32)   : zev cc_X11_run G 0 krI (zE 29 (.aload_n 0) 1 :: zEf 30 (.getfield 82) 3 11 25 173 (2, 66, 0) :: zE 33 (.iload 4) 2 :: es) σ [vR 11 0, vI x1, vI x2, vI x3, vI x4] [] = zev cc_X11_run G 0 krI es σ [vR 11 0, vI x1, vI x2, vI x3, vI x4] [vI x4, vR 66 0] := rfl
theorem t_X11_run_36 {G : Nat → zH → List zAV → List zAV → Option (zH × Int32)} (es : List zEnt) (σ : zH) (x1 : Int32) (x2 : Int32) (x3 : Int32) (x4 : Int32) (xs0 : Int32)   : zev cc_X11_run G 0 krI (zE 36 (.iload_n 1) 1 :: es) σ [vR 11 0, vI x1, vI x2, vI x3, vI x4] [vI xs0] = zev cc_X11_run G 0 krI es σ [vR 11 0, vI x1, vI x2, vI x3, vI x4] [vI x1, vI xs0] := rfl
theorem t_X11_run_43 {G : Nat → zH → List zAV → List zAV → Option (zH × Int32)} (es : List zEnt) (σ : zH) (x1 : Int32) (x2 : Int32) (x3 : Int32) (x4 : Int32)  (w44 : Int32) : zev cc_X11_run G 0 krI (zE 43 (.iload_n 3) 1 :: zEk 44 (.iconst 1) 1 w44 :: zE 45 .iadd 1 :: es) σ [vR 11 0, vI x1, vI x2, vI x3, vI x4] [] = zev cc_X11_run G 0 krI es σ [vR 11 0, vI x1, vI x2, vI x3, vI x4] [vI (x3 + w44)] := rfl
theorem t_X11_run_49 {G : Nat → zH → List zAV → List zAV → Option (zH × Int32)} (es : List zEnt) (σ : zH) (x1 : Int32) (x2 : Int32) (x4 : Int32) (y3 : zAV) (w49 : Int32) : zev cc_X11_run G 0 krI (zEk 49 (.iconst 0) 1 w49 :: es) σ [vR 11 0, vI x1, vI x2, y3, vI x4] [] = zev cc_X11_run G 0 krI es σ [vR 11 0, vI x1, vI x2, y3, vI x4] [vI w49] := rfl
theorem t_X11_run_50 {G : Nat → zH → List zAV → List zAV → Option (zH × Int32)} (es : List zEnt) (σ : zH) (x1 : Int32) (x2 : Int32) (x4 : Int32) (xs0 : Int32) (y3 : zAV)  : zev cc_X11_run G 0 krI (zE 50 (.istore_n 3) 1 :: zE 51 (.iload_n 3) 1 :: zE 52 (.iload_n 2) 1 :: es) σ [vR 11 0, vI x1, vI x2, y3, vI x4] [vI xs0] = zev cc_X11_run G 0 krI es σ [vR 11 0, vI x1, vI x2, vI xs0, vI x4] [vI x2, vI xs0] := rfl
theorem t_X11_run_56 {G : Nat → zH → List zAV → List zAV → Option (zH × Int32)} (es : List zEnt) (σ : zH) (x1 : Int32) (x3 : Int32) (x4 : Int32) (y2 : zAV)  : zev cc_X11_run G 0 krI (zE 56 (.iload_n 3) 1 :: es) σ [vR 11 0, vI x1, y2, vI x3, vI x4] [] = zev cc_X11_run G 0 krI es σ [vR 11 0, vI x1, y2, vI x3, vI x4] [vI x3] := rfl
theorem t_X11_run_60 {G : Nat → zH → List zAV → List zAV → Option (zH × Int32)} (es : List zEnt) (σ : zH) (x1 : Int32) (x2 : Int32) (x3 : Int32) (x4 : Int32)   : zev cc_X11_run G 0 krI (zE 60 (.iload_n 2) 1 :: es) σ [vR 11 0, vI x1, vI x2, vI x3, vI x4] [] = zev cc_X11_run G 0 krI es σ [vR 11 0, vI x1, vI x2, vI x3, vI x4] [vI x2] := rfl
theorem t_X11_run_61 {G : Nat → zH → List zAV → List zAV → Option (zH × Int32)} (es : List zEnt) (σ : zH) (x1 : Int32) (x3 : Int32) (x4 : Int32) (xs0 : Int32) (y2 : zAV) (w62 : Int32) : zev cc_X11_run G 0 krI (zE 61 (.istore_n 2) 1 :: zEk 62 (.iinc 4 1) 3 w62 :: es) σ [vR 11 0, vI x1, y2, vI x3, vI x4] [vI xs0] = zev cc_X11_run G 0 krI es σ [vR 11 0, vI x1, vI xs0, vI x3, vI (x4 + w62)] [] := rfl
theorem t_X11_run_68 {G : Nat → zH → List zAV → List zAV → Option (zH × Int32)} (es : List zEnt) (σ : zH) (x2 : Int32) (y0 : zAV) (y1 : zAV) (y3 : zAV) (y4 : zAV)  : zev cc_X11_run G 0 krI (zE 68 (.iload_n 2) 1 :: es) σ [y0, y1, vI x2, y3, y4] [] = zev cc_X11_run G 0 krI es σ [y0, y1, vI x2, y3, y4] [vI x2] := rfl
noncomputable def j_X11_run_61 (c17 : zH → Int32 → Int32 → Int32 → Int32 → Option (zH × Int32)) (σ : zH) (x1 : Int32) (x3 : Int32) (x4 : Int32) (xs0 : Int32) : Option (zH × Int32) :=
  c17 σ x1 xs0 x3 (x4 + (1 : Int32))
theorem e_X11_run_61 (c17 : zH → Int32 → Int32 → Int32 → Int32 → Option (zH × Int32)) (σ : zH) (x1 : Int32) (x3 : Int32) (x4 : Int32) (xs0 : Int32) (y2 : zAV) : j_X11_run_61 c17 σ x1 x3 x4 xs0 = zin cc_X11_run (fun t => if t = 17 then some (gl_X11_run_17 c17) else none) 0 krI b_X11_run 61 σ [vR 11 0, vI x1, y2, vI x3, vI x4] [vI xs0] := by
  unfold j_X11_run_61
  refine Eq.symm ((zin_b (es := q_X11_run_61) rfl).trans ?_)
  refine (t_X11_run_61 _ _ _ _ _ _ _ _).trans ?_
  refine x_goto.trans ?_
  exact (zrun_c rfl).trans (glr_X11_run_17 _ _ _ _ _ _)
theorem s_X11_run_61 {X : zX} (hX : zHX X) {c17 : zH → Int32 → Int32 → Int32 → Int32 → Option (zH × Int32)} (h17 : ∀ σ L st r, gl_X11_run_17 c17 σ L st = some r → zGW X 205 krI 17 σ L st r) : ∀ σ L st r, gl_X11_run_61 (j_X11_run_61 c17) σ L st = some r → zGW X 205 krI 61 σ L st r := by
  intro σ L st r h
  unfold gl_X11_run_61 at h
  split at h
  · exact zin_ok (hy_X11_run hX) bk_X11_run (fun t f hf => by
    by_cases e17 : t = 17
    · rw [if_pos e17] at hf; subst e17; cases hf; exact h17
    rw [if_neg e17] at hf
    cases hf) ((e_X11_run_61 _ _ _ _ _ _ _).symm.trans h)
  · cases h
noncomputable def j_X11_run_50 (c17 : zH → Int32 → Int32 → Int32 → Int32 → Option (zH × Int32)) (σ : zH) (x1 : Int32) (x2 : Int32) (x4 : Int32) (xs0 : Int32) : Option (zH × Int32) :=
  if x2 < xs0 then
    (j_X11_run_61 c17) σ x1 xs0 x4 xs0
  else
    (j_X11_run_61 c17) σ x1 xs0 x4 x2
theorem e_X11_run_50 (c17 : zH → Int32 → Int32 → Int32 → Int32 → Option (zH × Int32)) (σ : zH) (x1 : Int32) (x2 : Int32) (x4 : Int32) (xs0 : Int32) (y3 : zAV) : j_X11_run_50 c17 σ x1 x2 x4 xs0 = zin cc_X11_run (fun t => if t = 61 then some (gl_X11_run_61 (j_X11_run_61 c17)) else none) 0 krI b_X11_run 50 σ [vR 11 0, vI x1, vI x2, y3, vI x4] [vI xs0] := by
  unfold j_X11_run_50
  refine Eq.symm ((zin_b (es := q_X11_run_50) rfl).trans ?_)
  refine (t_X11_run_50 _ _ _ _ _ _ _).trans ?_
  refine x_icmp.trans (pif_le ?_ ?_)
  · refine (zrun_b (es := q_X11_run_60) rfl rfl).trans ?_
    refine (t_X11_run_60 _ _ _ _ _ _).trans ?_
    refine x_cut.trans ?_
    exact (zrun_c rfl).trans (glr_X11_run_61 _ _ _ _ _ _ _)
  · refine (t_X11_run_56 _ _ _ _ _ _).trans ?_
    refine x_goto.trans ?_
    exact (zrun_c rfl).trans (glr_X11_run_61 _ _ _ _ _ _ _)
theorem s_X11_run_50 {X : zX} (hX : zHX X) {c17 : zH → Int32 → Int32 → Int32 → Int32 → Option (zH × Int32)} (h17 : ∀ σ L st r, gl_X11_run_17 c17 σ L st = some r → zGW X 205 krI 17 σ L st r) : ∀ σ L st r, gl_X11_run_50 (j_X11_run_50 c17) σ L st = some r → zGW X 205 krI 50 σ L st r := by
  intro σ L st r h
  unfold gl_X11_run_50 at h
  split at h
  · exact zin_ok (hy_X11_run hX) bk_X11_run (fun t f hf => by
    by_cases e61 : t = 61
    · rw [if_pos e61] at hf; subst e61; cases hf; exact (s_X11_run_61 hX h17)
    rw [if_neg e61] at hf
    cases hf) ((e_X11_run_50 _ _ _ _ _ _ _).symm.trans h)
  · cases h
noncomputable def k_X11_run_17  : Nat → zH → Int32 → Int32 → Int32 → Int32 → Option (zH × Int32)
  | 0, _, _, _, _, _ => none
  | n + 1, σ, x1, x2, x3, x4 =>
    if x4 < (σ.1 42 0 9) then
      ix x4 192 fun j1 =>
      (d_X11_has σ (σ.1 66 0 j1) x1).bind fun p2 =>
      if p2.2 = 0 then
        (j_X11_run_50 (k_X11_run_17 n)) p2.1 x1 x2 x4 (0 : Int32)
      else
        (j_X11_run_50 (k_X11_run_17 n)) p2.1 x1 x2 x4 (x3 + (1 : Int32))
    else
      some (σ, x2)
theorem e_X11_run_17  (n : Nat) (σ : zH) (x1 : Int32) (x2 : Int32) (x3 : Int32) (x4 : Int32)  : k_X11_run_17 (n + 1) σ x1 x2 x3 x4 = zin cc_X11_run (fun t => if t = 50 then some (gl_X11_run_50 (j_X11_run_50 (k_X11_run_17 n))) else none) 0 krI b_X11_run 17 σ [vR 11 0, vI x1, vI x2, vI x3, vI x4] [] := by
  rw [k_X11_run_17]
  refine Eq.symm ((zin_b (es := q_X11_run_17) rfl).trans ?_)
  refine (t_X11_run_17 _ _ _ _ _ _ _).trans ?_
  refine ((x_iald (N := 11) rfl rfl).trans (ix_l 9 (by decide +kernel))).trans ?_
  refine x_icmp.trans (pif_ge ?_ ?_)
  · refine (zrun_b (es := q_X11_run_68) rfl rfl).trans ?_
    refine (t_X11_run_68 _ _ _ _ _ _ _).trans ?_
    exact x_iret
  · refine (t_X11_run_29 _ _ _ _ _ _).trans ?_
    refine (x_iald (N := 192) rfl rfl).trans (pix fun _ => ?_)
    refine (t_X11_run_36 _ _ _ _ _ _ _).trans ?_
    refine (x_callS rfl rfl rfl rfl).trans ((cl_X11_run_X11_has _ _ _).trans ((gr_X11_has _ _ _ _).trans (pbd fun _ => ?_)))
    refine x_if.trans (pif_eq ?_ ?_)
    · refine (zrun_b (es := q_X11_run_49) rfl rfl).trans ?_
      refine (t_X11_run_49 _ _ _ _ _ _ _).trans ?_
      refine x_cut.trans ?_
      exact (zrun_c rfl).trans (glr_X11_run_50 _ _ _ _ _ _ _)
    · refine (t_X11_run_43 _ _ _ _ _ _ _).trans ?_
      refine x_goto.trans ?_
      exact (zrun_c rfl).trans (glr_X11_run_50 _ _ _ _ _ _ _)
theorem s_X11_run_17 {X : zX} (hX : zHX X)   : ∀ n σ L st r, gl_X11_run_17 (k_X11_run_17 n) σ L st = some r → zGW X 205 krI 17 σ L st r := by
  intro n
  induction n with
  | zero =>
    intro σ L st r h
    unfold gl_X11_run_17 at h
    split at h <;> cases h
  | succ n ih =>
    intro σ L st r h
    unfold gl_X11_run_17 at h
    split at h
    · exact zin_ok (hy_X11_run hX) bk_X11_run (fun t f hf => by
      by_cases e50 : t = 50
      · rw [if_pos e50] at hf; subst e50; cases hf; exact (s_X11_run_50 hX ih)
      rw [if_neg e50] at hf
      cases hf) ((e_X11_run_17 _ _ _ _ _ _).symm.trans h)
    · cases h
noncomputable def d_X11_run (σ : zH) (xa1 : Int32) : Option (zH × Int32) :=
  (d_X11_isCompany σ xa1).bind fun p1 =>
  if p1.2 = 0 then
    some (p1.1, (-1 : Int32))
  else
    (k_X11_run_17 zN) p1.1 xa1 (0 : Int32) (0 : Int32) (0 : Int32)
theorem e_X11_run (σ : zH) (xa1 : Int32) : d_X11_run σ xa1 = zin cc_X11_run (fun t => if t = 17 then some (gl_X11_run_17 (k_X11_run_17 zN)) else none) 0 krI b_X11_run 0 σ [vR 11 0, vI xa1, vU, vU, vU] [] := by
  unfold d_X11_run
  refine Eq.symm ((zin_b (es := q_X11_run_0) rfl).trans ?_)
  refine (t_X11_run_0 _ _ _ _ _ _).trans ?_
  refine (x_callV rfl rfl rfl rfl).trans ((cl_X11_run_X11_isCompany _ _ _).trans ((gr_X11_isCompany _ _ _).trans (pbd fun _ => ?_)))
  refine x_if.trans (pif_ne ?_ ?_)
  · refine (zrun_b (es := q_X11_run_10) rfl rfl).trans ?_
    refine (t_X11_run_10 _ _ _ _ _ _ _ _ _).trans ?_
    refine x_cut.trans ?_
    exact (zrun_c rfl).trans (glr_X11_run_17 _ _ _ _ _ _)
  · refine (t_X11_run_8 _ _ _ _ _ _ _ _).trans ?_
    exact x_iret
noncomputable def g_X11_run {ρ : Type} (σ : zH) (av : List zAV) (q : zH → zAV → Option ρ) : Option ρ := match av with
  | [.inr (.inr (.inl (11, 0))), .inl xa1] => (d_X11_run σ xa1).bind fun p => q p.1 (vI p.2)
  | _ => none
theorem gr_X11_run {ρ : Type} (σ : zH) (xa1 : Int32) (q : zH → zAV → Option ρ) : g_X11_run σ [vR 11 0, vI xa1] q = (d_X11_run σ xa1).bind fun p => q p.1 (vI p.2) := rfl
theorem c_X11_run {ρ : Type} {X : zX} (hX : zHX X) {σ : zH} {av : List zAV} {q : zH → zAV → Option ρ} {r : ρ} (h : g_X11_run σ av q = some r) (hv : ∀ a ∈ av, zval X a) : zcon X 205 σ av q r := by
  unfold g_X11_run at h
  split at h
  · exact zcon_I (n := 205) (ml := 5) (rc := 0) (st := 0) (kd := 11) (np := 1) (by decide +kernel) (by decide) ⟨_, _, rfl, rfl⟩ (Nat.le_of_ble_eq_true rfl) hv h (fun y h1 => (zin_ok (hy_X11_run hX) bk_X11_run (fun t f hf => by
      by_cases e17 : t = 17
      · rw [if_pos e17] at hf; subst e17; cases hf; exact ((fun σ L st r h => s_X11_run_17 hX  zN σ L st r h))
      rw [if_neg e17] at hf
      cases hf) ((e_X11_run _ _).symm.trans h1)))
  · cases h
/-! SleepWavesModel.why(II)I -/
def q_X11_why_22 : List zEnt := zE 22 .ireturn 1 :: []
def q_X11_why_20 : List zEnt := zEk 20 (.bipush (-2)) 2 (-2) :: q_X11_why_22
def q_X11_why_17 : List zEnt := zEa 17 (.ifCond .ne 6) 3 23 :: q_X11_why_20
def q_X11_why_14 : List zEnt := zEc 14 (.invokestatic 173) 3 125 3 129 0 :: q_X11_why_17
def q_X11_why_8 : List zEnt := zE 8 (.iload_n 2) 1 :: zE 9 .i2l 1 :: (10, (.lconst 0), 1, (0, 0, 0, 0), (0, 0, 0), 0, 0, []) :: (11, (.ldc2_w 451), 3, (0, 0, 1626, 0), (0, 0, 0), 0, 2, []) :: q_X11_why_14
def q_X11_why_5 : List zEnt := zEa 5 (.ifCond .eq 15) 3 20 :: q_X11_why_8
def q_X11_why_2 : List zEnt := zEc 2 (.invokevirtual 426) 3 127 2 167 0 :: q_X11_why_5
def q_X11_why_0 : List zEnt := zE 0 (.aload_n 0) 1 :: zE 1 (.iload_n 1) 1 :: q_X11_why_2
def q_X11_why_33 : List zEnt := zEa 33 (.goto 23) 3 56 :: []
def q_X11_why_32 : List zEnt := zE 32 .iaload 1 :: q_X11_why_33
def q_X11_why_27 : List zEnt := zE 27 (.aload_n 0) 1 :: zEf 28 (.getfield 85) 3 11 26 174 (2, 67, 0) :: zE 31 (.iload_n 1) 1 :: q_X11_why_32
def q_X11_why_24 : List zEnt := zEa 24 (.ifCond .ne 12) 3 36 :: q_X11_why_27
def q_X11_why_23 : List zEnt := zE 23 (.iload_n 2) 1 :: q_X11_why_24
def q_X11_why_47 : List zEnt := zEa 47 (.goto 9) 3 56 :: []
def q_X11_why_46 : List zEnt := zE 46 .iaload 1 :: q_X11_why_47
def q_X11_why_41 : List zEnt := zE 41 (.aload_n 0) 1 :: zEf 42 (.getfield 88) 3 11 27 175 (2, 68, 0) :: zE 45 (.iload_n 1) 1 :: q_X11_why_46
def q_X11_why_38 : List zEnt := zEa 38 (.if_icmp .ne 12) 3 50 :: q_X11_why_41
def q_X11_why_36 : List zEnt := zE 36 (.iload_n 2) 1 :: zEk 37 (.iconst 1) 1 1 :: q_X11_why_38
def q_X11_why_56 : List zEnt := zE 56 .ireturn 1 :: []
def q_X11_why_55 : List zEnt := zE 55 .iaload 1 :: q_X11_why_56
def q_X11_why_50 : List zEnt := zE 50 (.aload_n 0) 1 :: zEf 51 (.getfield 91) 3 11 28 176 (2, 69, 0) :: zE 54 (.iload_n 1) 1 :: q_X11_why_55
def b_X11_why : List (Nat × List zEnt) := [(0, q_X11_why_0), (20, q_X11_why_20), (23, q_X11_why_23), (36, q_X11_why_36), (50, q_X11_why_50), (56, q_X11_why_56)]
theorem bk_X11_why : zchB 206 b_X11_why = true := by decide +kernel
noncomputable def cc_X11_why {ρ : Type} : Nat → zH → List zAV → (zH → zAV → Option ρ) → Option ρ := fun n σ av q => if n = 127 then g_X11_isCompany σ av q else if n = 125 then g_X11_in σ av q else none
theorem cs_X11_why {ρ : Type} {X : zX} (hX : zHX X) : zCS X (cc_X11_why (ρ := ρ)) := by
  intro n σ av q r h hv
  unfold cc_X11_why at h
  by_cases e_X11_isCompany : n = 127
  · rw [if_pos e_X11_isCompany] at h
    subst e_X11_isCompany
    exact c_X11_isCompany hX h hv
  rw [if_neg e_X11_isCompany] at h
  by_cases e_X11_in : n = 125
  · rw [if_pos e_X11_in] at h
    subst e_X11_in
    exact c_X11_in hX h hv
  rw [if_neg e_X11_in] at h
  cases h
theorem cl_X11_why_X11_isCompany {ρ : Type} (σ : zH) (av : List zAV) (q : zH → zAV → Option ρ) : cc_X11_why 127 σ av q = g_X11_isCompany σ av q := rfl
theorem cl_X11_why_X11_in {ρ : Type} (σ : zH) (av : List zAV) (q : zH → zAV → Option ρ) : cc_X11_why 125 σ av q = g_X11_in σ av q := rfl
theorem hy_X11_why {ρ : Type} {X : zX} (hX : zHX X) : zHY X 206 (cc_X11_why (ρ := ρ)) := zHX.hY hX (cs_X11_why hX) (zmok_all 206 (by decide))
theorem t_X11_why_0 {G : Nat → zH → List zAV → List zAV → Option (zH × Int32)} (es : List zEnt) (σ : zH) (x1 : Int32) (x2 : Int32)   : zev cc_X11_why G 0 krI (zE 0 (.aload_n 0) 1 :: zE 1 (.iload_n 1) 1 :: es) σ [vR 11 0, vI x1, vI x2] [] = zev cc_X11_why G 0 krI es σ [vR 11 0, vI x1, vI x2] [vI x1, vR 11 0] := rfl
theorem t_X11_why_8 {G : Nat → zH → List zAV → List zAV → Option (zH × Int32)} (es : List zEnt) (σ : zH) (x1 : Int32) (x2 : Int32)  (w10 : Int64) (w11 : Int64) : zev cc_X11_why G 0 krI (zE 8 (.iload_n 2) 1 :: zE 9 .i2l 1 :: (10, (.lconst 0), 1, (0, 0, 0, 0), (0, 0, 0), 0, w10, []) :: (11, (.ldc2_w 451), 3, (0, 0, 1626, 0), (0, 0, 0), 0, w11, []) :: es) σ [vR 11 0, vI x1, vI x2] [] = zev cc_X11_why G 0 krI es σ [vR 11 0, vI x1, vI x2] [vL w11, vL w10, vL x2.toInt64] := rfl
theorem t_X11_why_20 {G : Nat → zH → List zAV → List zAV → Option (zH × Int32)} (es : List zEnt) (σ : zH)  (y0 : zAV) (y1 : zAV) (y2 : zAV) (w20 : Int32) : zev cc_X11_why G 0 krI (zEk 20 (.bipush (-2)) 2 w20 :: es) σ [y0, y1, y2] [] = zev cc_X11_why G 0 krI es σ [y0, y1, y2] [vI w20] := rfl
theorem t_X11_why_23 {G : Nat → zH → List zAV → List zAV → Option (zH × Int32)} (es : List zEnt) (σ : zH) (x1 : Int32) (x2 : Int32)   : zev cc_X11_why G 0 krI (zE 23 (.iload_n 2) 1 :: es) σ [vR 11 0, vI x1, vI x2] [] = zev cc_X11_why G 0 krI es σ [vR 11 0, vI x1, vI x2] [vI x2] := rfl
theorem t_X11_why_27 {G : Nat → zH → List zAV → List zAV → Option (zH × Int32)} (es : List zEnt) (σ : zH) (x1 : Int32) (y2 : zAV)  : zev cc_X11_why G 0 krI (zE 27 (.aload_n 0) 1 :: zEf 28 (.getfield 85) 3 11 26 174 (2, 67, 0) :: zE 31 (.iload_n 1) 1 :: es) σ [vR 11 0, vI x1, y2] [] = zev cc_X11_why G 0 krI es σ [vR 11 0, vI x1, y2] [vI x1, vR 67 0] := rfl
theorem t_X11_why_36 {G : Nat → zH → List zAV → List zAV → Option (zH × Int32)} (es : List zEnt) (σ : zH) (x1 : Int32) (x2 : Int32)  (w37 : Int32) : zev cc_X11_why G 0 krI (zE 36 (.iload_n 2) 1 :: zEk 37 (.iconst 1) 1 w37 :: es) σ [vR 11 0, vI x1, vI x2] [] = zev cc_X11_why G 0 krI es σ [vR 11 0, vI x1, vI x2] [vI w37, vI x2] := rfl
theorem t_X11_why_41 {G : Nat → zH → List zAV → List zAV → Option (zH × Int32)} (es : List zEnt) (σ : zH) (x1 : Int32) (y2 : zAV)  : zev cc_X11_why G 0 krI (zE 41 (.aload_n 0) 1 :: zEf 42 (.getfield 88) 3 11 27 175 (2, 68, 0) :: zE 45 (.iload_n 1) 1 :: es) σ [vR 11 0, vI x1, y2] [] = zev cc_X11_why G 0 krI es σ [vR 11 0, vI x1, y2] [vI x1, vR 68 0] := rfl
theorem t_X11_why_50 {G : Nat → zH → List zAV → List zAV → Option (zH × Int32)} (es : List zEnt) (σ : zH) (x1 : Int32) (y2 : zAV)  : zev cc_X11_why G 0 krI (zE 50 (.aload_n 0) 1 :: zEf 51 (.getfield 91) 3 11 28 176 (2, 69, 0) :: zE 54 (.iload_n 1) 1 :: es) σ [vR 11 0, vI x1, y2] [] = zev cc_X11_why G 0 krI es σ [vR 11 0, vI x1, y2] [vI x1, vR 69 0] := rfl
noncomputable def d_X11_why (σ : zH) (xa1 : Int32) (xa2 : Int32) : Option (zH × Int32) :=
  (d_X11_isCompany σ xa1).bind fun p1 =>
  if p1.2 = 0 then
    some (p1.1, (-2 : Int32))
  else
    (d_X11_in p1.1 xa2.toInt64 (0 : Int64) (2 : Int64)).bind fun p2 =>
    if p2.2 = 0 then
      some (p2.1, (-2 : Int32))
    else
      if xa2 = 0 then
        ix xa1 12 fun j5 =>
        some (p2.1, (p2.1.1 67 0 j5))
      else
        if xa2 = (1 : Int32) then
          ix xa1 12 fun j4 =>
          some (p2.1, (p2.1.1 68 0 j4))
        else
          ix xa1 12 fun j3 =>
          some (p2.1, (p2.1.1 69 0 j3))
theorem e_X11_why (σ : zH) (xa1 : Int32) (xa2 : Int32) : d_X11_why σ xa1 xa2 = zin cc_X11_why (fun t => none) 0 krI b_X11_why 0 σ [vR 11 0, vI xa1, vI xa2] [] := by
  unfold d_X11_why
  refine Eq.symm ((zin_b (es := q_X11_why_0) rfl).trans ?_)
  refine (t_X11_why_0 _ _ _ _).trans ?_
  refine (x_callV rfl rfl rfl rfl).trans ((cl_X11_why_X11_isCompany _ _ _).trans ((gr_X11_isCompany _ _ _).trans (pbd fun _ => ?_)))
  refine x_if.trans (pif_eq ?_ ?_)
  · refine (zrun_b (es := q_X11_why_20) rfl rfl).trans ?_
    refine (t_X11_why_20 _ _ _ _ _ _).trans ?_
    exact x_iret
  · refine (t_X11_why_8 _ _ _ _ _ _).trans ?_
    refine (x_callS rfl rfl rfl rfl).trans ((cl_X11_why_X11_in _ _ _).trans ((gr_X11_in _ _ _ _ _).trans (pbd fun _ => ?_)))
    refine x_if.trans (pif_ne ?_ ?_)
    · refine (zrun_b (es := q_X11_why_23) rfl rfl).trans ?_
      refine (t_X11_why_23 _ _ _ _).trans ?_
      refine x_if.trans (pif_ne ?_ ?_)
      · refine (zrun_b (es := q_X11_why_36) rfl rfl).trans ?_
        refine (t_X11_why_36 _ _ _ _ _).trans ?_
        refine x_icmp.trans (pif_ne ?_ ?_)
        · refine (zrun_b (es := q_X11_why_50) rfl rfl).trans ?_
          refine (t_X11_why_50 _ _ _ _).trans ?_
          refine (x_iald (N := 12) rfl rfl).trans (pix fun _ => ?_)
          exact x_iret
        · refine (t_X11_why_41 _ _ _ _).trans ?_
          refine (x_iald (N := 12) rfl rfl).trans (pix fun _ => ?_)
          refine x_goto.trans ?_
          refine (zrun_b (es := q_X11_why_56) rfl rfl).trans ?_
          exact x_iret
      · refine (t_X11_why_27 _ _ _ _).trans ?_
        refine (x_iald (N := 12) rfl rfl).trans (pix fun _ => ?_)
        refine x_goto.trans ?_
        refine (zrun_b (es := q_X11_why_56) rfl rfl).trans ?_
        exact x_iret
    · refine (t_X11_why_20 _ _ _ _ _ _).trans ?_
      exact x_iret
noncomputable def g_X11_why {ρ : Type} (σ : zH) (av : List zAV) (q : zH → zAV → Option ρ) : Option ρ := match av with
  | [.inr (.inr (.inl (11, 0))), .inl xa1, .inl xa2] => (d_X11_why σ xa1 xa2).bind fun p => q p.1 (vI p.2)
  | _ => none
theorem gr_X11_why {ρ : Type} (σ : zH) (xa1 : Int32) (xa2 : Int32) (q : zH → zAV → Option ρ) : g_X11_why σ [vR 11 0, vI xa1, vI xa2] q = (d_X11_why σ xa1 xa2).bind fun p => q p.1 (vI p.2) := rfl
theorem c_X11_why {ρ : Type} {X : zX} (hX : zHX X) {σ : zH} {av : List zAV} {q : zH → zAV → Option ρ} {r : ρ} (h : g_X11_why σ av q = some r) (hv : ∀ a ∈ av, zval X a) : zcon X 206 σ av q r := by
  unfold g_X11_why at h
  split at h
  · exact zcon_I (n := 206) (ml := 3) (rc := 0) (st := 0) (kd := 11) (np := 2) (by decide +kernel) (by decide) ⟨_, _, rfl, rfl⟩ (Nat.le_of_ble_eq_true rfl) hv h (fun y h1 => (zin_ok (hy_X11_why hX) bk_X11_why (fun t f hf => by
      cases hf) ((e_X11_why _ _ _).symm.trans h1)))
  · cases h
/-! SleepWavesModel.fair(III)I -/
def q_X11_fair_42 : List zEnt := zE 42 .ireturn 1 :: []
def q_X11_fair_41 : List zEnt := zEk 41 (.iconst (-1)) 1 (-1) :: q_X11_fair_42
def q_X11_fair_38 : List zEnt := zEa 38 (.ifCond .ne 5) 3 43 :: q_X11_fair_41
def q_X11_fair_35 : List zEnt := zEc 35 (.invokestatic 173) 3 125 3 129 0 :: q_X11_fair_38
def q_X11_fair_29 : List zEnt := zE 29 (.iload_n 3) 1 :: zE 30 .i2l 1 :: (31, (.lconst 0), 1, (0, 0, 0, 0), (0, 0, 0), 0, 0, []) :: (32, (.ldc2_w 451), 3, (0, 0, 1626, 0), (0, 0, 0), 0, 2, []) :: q_X11_fair_35
def q_X11_fair_26 : List zEnt := zEa 26 (.ifCond .eq 15) 3 41 :: q_X11_fair_29
def q_X11_fair_23 : List zEnt := zEc 23 (.invokestatic 173) 3 125 3 129 0 :: q_X11_fair_26
def q_X11_fair_17 : List zEnt := zE 17 (.iload_n 2) 1 :: zE 18 .i2l 1 :: (19, (.lconst 0), 1, (0, 0, 0, 0), (0, 0, 0), 0, 0, []) :: (20, (.ldc2_w 440), 3, (0, 0, 1603, 0), (0, 0, 0), 0, 192, []) :: q_X11_fair_23
def q_X11_fair_14 : List zEnt := zEa 14 (.ifCond .eq 27) 3 41 :: q_X11_fair_17
def q_X11_fair_13 : List zEnt := zE 13 .iaload 1 :: q_X11_fair_14
def q_X11_fair_8 : List zEnt := zE 8 (.aload_n 0) 1 :: zEf 9 (.getfield 7) 3 11 1 149 (2, 42, 0) :: zEk 12 (.iconst 0) 1 0 :: q_X11_fair_13
def q_X11_fair_5 : List zEnt := zEa 5 (.ifCond .eq 36) 3 41 :: q_X11_fair_8
def q_X11_fair_2 : List zEnt := zEc 2 (.invokevirtual 418) 3 164 2 145 0 :: q_X11_fair_5
def q_X11_fair_0 : List zEnt := zE 0 (.aload_n 0) 1 :: zE 1 (.iload_n 1) 1 :: q_X11_fair_2
def q_X11_fair_43 : List zEnt := zEk 43 (.iconst 0) 1 0 :: zE 44 (.istore 4) 2 :: [zE 46 .nop 0]
def q_X11_fair_64 : List zEnt := zEa 64 (.goto (-18)) 3 46 :: []
def q_X11_fair_61 : List zEnt := zEk 61 (.iinc 4 1) 3 1 :: q_X11_fair_64
def q_X11_fair_60 : List zEnt := zE 60 .iastore 1 :: q_X11_fair_61
def q_X11_fair_53 : List zEnt := zE 53 (.aload_n 0) 1 :: zEf 54 (.getfield 160) 3 11 62 210 (2, 89, 0) :: zE 57 (.iload 4) 2 :: zEk 59 (.iconst 0) 1 0 :: q_X11_fair_60
def q_X11_fair_50 : List zEnt := zEa 50 (.if_icmp .ge 17) 3 67 :: q_X11_fair_53
def q_X11_fair_46 : List zEnt := zE 46 (.iload 4) 2 :: zEk 48 (.bipush 12) 2 12 :: q_X11_fair_50
def q_X11_fair_71 : List zEnt := zEk 71 (.iconst 0) 1 0 :: zE 72 (.istore 4) 2 :: [zE 74 .nop 0]
def q_X11_fair_68 : List zEnt := zEc 68 (.invokevirtual 431) 3 187 1 169 1 :: q_X11_fair_71
def q_X11_fair_67 : List zEnt := zE 67 (.aload_n 0) 1 :: q_X11_fair_68
def q_X11_fair_85 : List zEnt := zEk 85 (.iconst 0) 1 0 :: zE 86 (.istore 5) 2 :: [zE 88 .nop 0]
def q_X11_fair_82 : List zEnt := zEc 82 (.invokevirtual 423) 3 180 2 146 1 :: q_X11_fair_85
def q_X11_fair_80 : List zEnt := zE 80 (.aload_n 0) 1 :: zE 81 (.iload_n 1) 1 :: q_X11_fair_82
def q_X11_fair_77 : List zEnt := zEa 77 (.if_icmp .ge 51) 3 128 :: q_X11_fair_80
def q_X11_fair_74 : List zEnt := zE 74 (.iload 4) 2 :: zE 76 (.iload_n 2) 1 :: q_X11_fair_77
def q_X11_fair_119 : List zEnt := zEa 119 (.goto (-31)) 3 88 :: []
def q_X11_fair_116 : List zEnt := zEk 116 (.iinc 5 1) 3 1 :: q_X11_fair_119
def q_X11_fair_115 : List zEnt := zE 115 .iastore 1 :: q_X11_fair_116
def q_X11_fair_114 : List zEnt := zE 114 .iadd 1 :: q_X11_fair_115
def q_X11_fair_113 : List zEnt := zE 113 .iaload 1 :: q_X11_fair_114
def q_X11_fair_107 : List zEnt := zE 107 (.aload_n 0) 1 :: zEf 108 (.getfield 70) 3 11 21 169 (2, 62, 0) :: zE 111 (.iload 5) 2 :: q_X11_fair_113
def q_X11_fair_106 : List zEnt := zE 106 .iaload 1 :: q_X11_fair_107
def q_X11_fair_99 : List zEnt := zE 99 (.aload_n 0) 1 :: zEf 100 (.getfield 160) 3 11 62 210 (2, 89, 0) :: zE 103 (.iload 5) 2 :: zE 105 .dup2 1 :: q_X11_fair_106
def q_X11_fair_96 : List zEnt := zEa 96 (.if_icmp .ge 26) 3 122 :: q_X11_fair_99
def q_X11_fair_95 : List zEnt := zE 95 .iaload 1 :: q_X11_fair_96
def q_X11_fair_88 : List zEnt := zE 88 (.iload 5) 2 :: zE 90 (.aload_n 0) 1 :: zEf 91 (.getfield 7) 3 11 1 149 (2, 42, 0) :: zEk 94 (.iconst 0) 1 0 :: q_X11_fair_95
def q_X11_fair_125 : List zEnt := zEa 125 (.goto (-51)) 3 74 :: []
def q_X11_fair_122 : List zEnt := zEk 122 (.iinc 4 1) 3 1 :: q_X11_fair_125
def q_X11_fair_132 : List zEnt := zEk 132 (.iconst 0) 1 0 :: zE 133 (.istore 4) 2 :: zEk 135 (.iconst 0) 1 0 :: zE 136 (.istore 5) 2 :: zEk 138 (.iconst 1) 1 1 :: zE 139 (.istore 6) 2 :: [zE 141 .nop 0]
def q_X11_fair_129 : List zEnt := zEc 129 (.invokevirtual 437) 3 188 1 171 1 :: q_X11_fair_132
def q_X11_fair_128 : List zEnt := zE 128 (.aload_n 0) 1 :: q_X11_fair_129
def q_X11_fair_171 : List zEnt := zEa 171 (.goto 5) 3 176 :: []
def q_X11_fair_169 : List zEnt := zE 169 (.iload 6) 2 :: q_X11_fair_171
def q_X11_fair_166 : List zEnt := zEa 166 (.if_icmp .le 8) 3 174 :: q_X11_fair_169
def q_X11_fair_165 : List zEnt := zE 165 .iaload 1 :: q_X11_fair_166
def q_X11_fair_159 : List zEnt := zE 159 (.aload_n 0) 1 :: zEf 160 (.getfield 160) 3 11 62 210 (2, 89, 0) :: zE 163 (.iload 4) 2 :: q_X11_fair_165
def q_X11_fair_158 : List zEnt := zE 158 .iaload 1 :: q_X11_fair_159
def q_X11_fair_152 : List zEnt := zE 152 (.aload_n 0) 1 :: zEf 153 (.getfield 160) 3 11 62 210 (2, 89, 0) :: zE 156 (.iload 6) 2 :: q_X11_fair_158
def q_X11_fair_149 : List zEnt := zEa 149 (.if_icmp .ge 61) 3 210 :: q_X11_fair_152
def q_X11_fair_148 : List zEnt := zE 148 .iaload 1 :: q_X11_fair_149
def q_X11_fair_141 : List zEnt := zE 141 (.iload 6) 2 :: zE 143 (.aload_n 0) 1 :: zEf 144 (.getfield 7) 3 11 1 149 (2, 42, 0) :: zEk 147 (.iconst 0) 1 0 :: q_X11_fair_148
def q_X11_fair_174 : List zEnt := zE 174 (.iload 4) 2 :: [zE 176 .nop 0]
def q_X11_fair_197 : List zEnt := zEa 197 (.goto 5) 3 202 :: []
def q_X11_fair_195 : List zEnt := zE 195 (.iload 6) 2 :: q_X11_fair_197
def q_X11_fair_192 : List zEnt := zEa 192 (.if_icmp .ge 8) 3 200 :: q_X11_fair_195
def q_X11_fair_191 : List zEnt := zE 191 .iaload 1 :: q_X11_fair_192
def q_X11_fair_185 : List zEnt := zE 185 (.aload_n 0) 1 :: zEf 186 (.getfield 160) 3 11 62 210 (2, 89, 0) :: zE 189 (.iload 5) 2 :: q_X11_fair_191
def q_X11_fair_184 : List zEnt := zE 184 .iaload 1 :: q_X11_fair_185
def q_X11_fair_176 : List zEnt := zE 176 (.istore 4) 2 :: zE 178 (.aload_n 0) 1 :: zEf 179 (.getfield 160) 3 11 62 210 (2, 89, 0) :: zE 182 (.iload 6) 2 :: q_X11_fair_184
def q_X11_fair_200 : List zEnt := zE 200 (.iload 5) 2 :: [zE 202 .nop 0]
def q_X11_fair_207 : List zEnt := zEa 207 (.goto (-66)) 3 141 :: []
def q_X11_fair_202 : List zEnt := zE 202 (.istore 5) 2 :: zEk 204 (.iinc 6 1) 3 1 :: q_X11_fair_207
def q_X11_fair_216 : List zEnt := zEa 216 (.goto 28) 3 244 :: []
def q_X11_fair_214 : List zEnt := zE 214 (.iload 4) 2 :: q_X11_fair_216
def q_X11_fair_211 : List zEnt := zEa 211 (.ifCond .ne 8) 3 219 :: q_X11_fair_214
def q_X11_fair_210 : List zEnt := zE 210 (.iload_n 3) 1 :: q_X11_fair_211
def q_X11_fair_226 : List zEnt := zEa 226 (.goto 18) 3 244 :: []
def q_X11_fair_224 : List zEnt := zE 224 (.iload 5) 2 :: q_X11_fair_226
def q_X11_fair_221 : List zEnt := zEa 221 (.if_icmp .ne 8) 3 229 :: q_X11_fair_224
def q_X11_fair_219 : List zEnt := zE 219 (.iload_n 3) 1 :: zEk 220 (.iconst 1) 1 1 :: q_X11_fair_221
def q_X11_fair_244 : List zEnt := zE 244 .ireturn 1 :: []
def q_X11_fair_243 : List zEnt := zE 243 .isub 1 :: q_X11_fair_244
def q_X11_fair_242 : List zEnt := zE 242 .iaload 1 :: q_X11_fair_243
def q_X11_fair_236 : List zEnt := zE 236 (.aload_n 0) 1 :: zEf 237 (.getfield 160) 3 11 62 210 (2, 89, 0) :: zE 240 (.iload 5) 2 :: q_X11_fair_242
def q_X11_fair_235 : List zEnt := zE 235 .iaload 1 :: q_X11_fair_236
def q_X11_fair_229 : List zEnt := zE 229 (.aload_n 0) 1 :: zEf 230 (.getfield 160) 3 11 62 210 (2, 89, 0) :: zE 233 (.iload 4) 2 :: q_X11_fair_235
def b_X11_fair : List (Nat × List zEnt) := [(0, q_X11_fair_0), (41, q_X11_fair_41), (43, q_X11_fair_43), (46, q_X11_fair_46), (67, q_X11_fair_67), (74, q_X11_fair_74), (88, q_X11_fair_88), (122, q_X11_fair_122), (128, q_X11_fair_128), (141, q_X11_fair_141), (174, q_X11_fair_174), (176, q_X11_fair_176), (200, q_X11_fair_200), (202, q_X11_fair_202), (210, q_X11_fair_210), (219, q_X11_fair_219), (229, q_X11_fair_229), (244, q_X11_fair_244)]
theorem bk_X11_fair : zchB 207 b_X11_fair = true := by decide +kernel
noncomputable def cc_X11_fair {ρ : Type} : Nat → zH → List zAV → (zH → zAV → Option ρ) → Option ρ := fun n σ av q => if n = 164 then g_X11_isLaw σ av q else if n = 125 then g_X11_in σ av q else if n = 187 then g_X11_keeps σ av q else if n = 180 then g_X11_quarter σ av q else if n = 188 then g_X11_laysBack σ av q else none
theorem cs_X11_fair {ρ : Type} {X : zX} (hX : zHX X) : zCS X (cc_X11_fair (ρ := ρ)) := by
  intro n σ av q r h hv
  unfold cc_X11_fair at h
  by_cases e_X11_isLaw : n = 164
  · rw [if_pos e_X11_isLaw] at h
    subst e_X11_isLaw
    exact c_X11_isLaw hX h hv
  rw [if_neg e_X11_isLaw] at h
  by_cases e_X11_in : n = 125
  · rw [if_pos e_X11_in] at h
    subst e_X11_in
    exact c_X11_in hX h hv
  rw [if_neg e_X11_in] at h
  by_cases e_X11_keeps : n = 187
  · rw [if_pos e_X11_keeps] at h
    subst e_X11_keeps
    exact c_X11_keeps hX h hv
  rw [if_neg e_X11_keeps] at h
  by_cases e_X11_quarter : n = 180
  · rw [if_pos e_X11_quarter] at h
    subst e_X11_quarter
    exact c_X11_quarter hX h hv
  rw [if_neg e_X11_quarter] at h
  by_cases e_X11_laysBack : n = 188
  · rw [if_pos e_X11_laysBack] at h
    subst e_X11_laysBack
    exact c_X11_laysBack hX h hv
  rw [if_neg e_X11_laysBack] at h
  cases h
theorem cl_X11_fair_X11_isLaw {ρ : Type} (σ : zH) (av : List zAV) (q : zH → zAV → Option ρ) : cc_X11_fair 164 σ av q = g_X11_isLaw σ av q := rfl
theorem cl_X11_fair_X11_in {ρ : Type} (σ : zH) (av : List zAV) (q : zH → zAV → Option ρ) : cc_X11_fair 125 σ av q = g_X11_in σ av q := rfl
theorem cl_X11_fair_X11_keeps {ρ : Type} (σ : zH) (av : List zAV) (q : zH → zAV → Option ρ) : cc_X11_fair 187 σ av q = g_X11_keeps σ av q := rfl
theorem cl_X11_fair_X11_quarter {ρ : Type} (σ : zH) (av : List zAV) (q : zH → zAV → Option ρ) : cc_X11_fair 180 σ av q = g_X11_quarter σ av q := rfl
theorem cl_X11_fair_X11_laysBack {ρ : Type} (σ : zH) (av : List zAV) (q : zH → zAV → Option ρ) : cc_X11_fair 188 σ av q = g_X11_laysBack σ av q := rfl
theorem hy_X11_fair {ρ : Type} {X : zX} (hX : zHX X) : zHY X 207 (cc_X11_fair (ρ := ρ)) := zHX.hY hX (cs_X11_fair hX) (zmok_all 207 (by decide))
def gl_X11_fair_46 {ρ : Type} (f : zH → Int32 → Int32 → Int32 → Int32 → Option ρ) (σ : zH) (L st : List zAV) : Option ρ := match L, st with
  | [.inr (.inr (.inl (11, 0))), .inl x1, .inl x2, .inl x3, .inl x4, _, _], [] => f σ x1 x2 x3 x4
  | _, _ => none
def gl_X11_fair_67 {ρ : Type} (f : zH → Int32 → Int32 → Int32 → Option ρ) (σ : zH) (L st : List zAV) : Option ρ := match L, st with
  | [.inr (.inr (.inl (11, 0))), .inl x1, .inl x2, .inl x3, _, _, _], [] => f σ x1 x2 x3
  | _, _ => none
def gl_X11_fair_74 {ρ : Type} (f : zH → Int32 → Int32 → Int32 → Int32 → Option ρ) (σ : zH) (L st : List zAV) : Option ρ := match L, st with
  | [.inr (.inr (.inl (11, 0))), .inl x1, .inl x2, .inl x3, .inl x4, _, _], [] => f σ x1 x2 x3 x4
  | _, _ => none
def gl_X11_fair_88 {ρ : Type} (f : zH → Int32 → Int32 → Int32 → Int32 → Int32 → Option ρ) (σ : zH) (L st : List zAV) : Option ρ := match L, st with
  | [.inr (.inr (.inl (11, 0))), .inl x1, .inl x2, .inl x3, .inl x4, .inl x5, _], [] => f σ x1 x2 x3 x4 x5
  | _, _ => none
def gl_X11_fair_122 {ρ : Type} (f : zH → Int32 → Int32 → Int32 → Int32 → Option ρ) (σ : zH) (L st : List zAV) : Option ρ := match L, st with
  | [.inr (.inr (.inl (11, 0))), .inl x1, .inl x2, .inl x3, .inl x4, _, _], [] => f σ x1 x2 x3 x4
  | _, _ => none
def gl_X11_fair_128 {ρ : Type} (f : zH → Int32 → Option ρ) (σ : zH) (L st : List zAV) : Option ρ := match L, st with
  | [.inr (.inr (.inl (11, 0))), _, _, .inl x3, _, _, _], [] => f σ x3
  | _, _ => none
def gl_X11_fair_141 {ρ : Type} (f : zH → Int32 → Int32 → Int32 → Int32 → Option ρ) (σ : zH) (L st : List zAV) : Option ρ := match L, st with
  | [.inr (.inr (.inl (11, 0))), _, _, .inl x3, .inl x4, .inl x5, .inl x6], [] => f σ x3 x4 x5 x6
  | _, _ => none
def gl_X11_fair_176 {ρ : Type} (f : zH → Int32 → Int32 → Int32 → Int32 → Option ρ) (σ : zH) (L st : List zAV) : Option ρ := match L, st with
  | [.inr (.inr (.inl (11, 0))), _, _, .inl x3, _, .inl x5, .inl x6], [.inl xs0] => f σ x3 x5 x6 xs0
  | _, _ => none
def gl_X11_fair_202 {ρ : Type} (f : zH → Int32 → Int32 → Int32 → Int32 → Option ρ) (σ : zH) (L st : List zAV) : Option ρ := match L, st with
  | [.inr (.inr (.inl (11, 0))), _, _, .inl x3, .inl x4, _, .inl x6], [.inl xs0] => f σ x3 x4 x6 xs0
  | _, _ => none
def gl_X11_fair_210 {ρ : Type} (f : zH → Int32 → Int32 → Int32 → Option ρ) (σ : zH) (L st : List zAV) : Option ρ := match L, st with
  | [.inr (.inr (.inl (11, 0))), _, _, .inl x3, .inl x4, .inl x5, _], [] => f σ x3 x4 x5
  | _, _ => none
theorem glr_X11_fair_46 {ρ : Type} (f : zH → Int32 → Int32 → Int32 → Int32 → Option ρ) (σ : zH) (x1 : Int32) (x2 : Int32) (x3 : Int32) (x4 : Int32) (y5 : zAV) (y6 : zAV) : gl_X11_fair_46 f σ [vR 11 0, vI x1, vI x2, vI x3, vI x4, y5, y6] [] = f σ x1 x2 x3 x4 := rfl
theorem glr_X11_fair_67 {ρ : Type} (f : zH → Int32 → Int32 → Int32 → Option ρ) (σ : zH) (x1 : Int32) (x2 : Int32) (x3 : Int32) (y4 : zAV) (y5 : zAV) (y6 : zAV) : gl_X11_fair_67 f σ [vR 11 0, vI x1, vI x2, vI x3, y4, y5, y6] [] = f σ x1 x2 x3 := rfl
theorem glr_X11_fair_74 {ρ : Type} (f : zH → Int32 → Int32 → Int32 → Int32 → Option ρ) (σ : zH) (x1 : Int32) (x2 : Int32) (x3 : Int32) (x4 : Int32) (y5 : zAV) (y6 : zAV) : gl_X11_fair_74 f σ [vR 11 0, vI x1, vI x2, vI x3, vI x4, y5, y6] [] = f σ x1 x2 x3 x4 := rfl
theorem glr_X11_fair_88 {ρ : Type} (f : zH → Int32 → Int32 → Int32 → Int32 → Int32 → Option ρ) (σ : zH) (x1 : Int32) (x2 : Int32) (x3 : Int32) (x4 : Int32) (x5 : Int32) (y6 : zAV) : gl_X11_fair_88 f σ [vR 11 0, vI x1, vI x2, vI x3, vI x4, vI x5, y6] [] = f σ x1 x2 x3 x4 x5 := rfl
theorem glr_X11_fair_122 {ρ : Type} (f : zH → Int32 → Int32 → Int32 → Int32 → Option ρ) (σ : zH) (x1 : Int32) (x2 : Int32) (x3 : Int32) (x4 : Int32) (y5 : zAV) (y6 : zAV) : gl_X11_fair_122 f σ [vR 11 0, vI x1, vI x2, vI x3, vI x4, y5, y6] [] = f σ x1 x2 x3 x4 := rfl
theorem glr_X11_fair_128 {ρ : Type} (f : zH → Int32 → Option ρ) (σ : zH) (x3 : Int32) (y1 : zAV) (y2 : zAV) (y4 : zAV) (y5 : zAV) (y6 : zAV) : gl_X11_fair_128 f σ [vR 11 0, y1, y2, vI x3, y4, y5, y6] [] = f σ x3 := rfl
theorem glr_X11_fair_141 {ρ : Type} (f : zH → Int32 → Int32 → Int32 → Int32 → Option ρ) (σ : zH) (x3 : Int32) (x4 : Int32) (x5 : Int32) (x6 : Int32) (y1 : zAV) (y2 : zAV) : gl_X11_fair_141 f σ [vR 11 0, y1, y2, vI x3, vI x4, vI x5, vI x6] [] = f σ x3 x4 x5 x6 := rfl
theorem glr_X11_fair_176 {ρ : Type} (f : zH → Int32 → Int32 → Int32 → Int32 → Option ρ) (σ : zH) (x3 : Int32) (x5 : Int32) (x6 : Int32) (xs0 : Int32) (y1 : zAV) (y2 : zAV) (y4 : zAV) : gl_X11_fair_176 f σ [vR 11 0, y1, y2, vI x3, y4, vI x5, vI x6] [vI xs0] = f σ x3 x5 x6 xs0 := rfl
theorem glr_X11_fair_202 {ρ : Type} (f : zH → Int32 → Int32 → Int32 → Int32 → Option ρ) (σ : zH) (x3 : Int32) (x4 : Int32) (x6 : Int32) (xs0 : Int32) (y1 : zAV) (y2 : zAV) (y5 : zAV) : gl_X11_fair_202 f σ [vR 11 0, y1, y2, vI x3, vI x4, y5, vI x6] [vI xs0] = f σ x3 x4 x6 xs0 := rfl
theorem glr_X11_fair_210 {ρ : Type} (f : zH → Int32 → Int32 → Int32 → Option ρ) (σ : zH) (x3 : Int32) (x4 : Int32) (x5 : Int32) (y1 : zAV) (y2 : zAV) (y6 : zAV) : gl_X11_fair_210 f σ [vR 11 0, y1, y2, vI x3, vI x4, vI x5, y6] [] = f σ x3 x4 x5 := rfl
theorem t_X11_fair_0 {G : Nat → zH → List zAV → List zAV → Option (zH × Int32)} (es : List zEnt) (σ : zH) (x1 : Int32) (x2 : Int32) (x3 : Int32) (y4 : zAV) (y5 : zAV) (y6 : zAV)  : zev cc_X11_fair G 0 krI (zE 0 (.aload_n 0) 1 :: zE 1 (.iload_n 1) 1 :: es) σ [vR 11 0, vI x1, vI x2, vI x3, y4, y5, y6] [] = zev cc_X11_fair G 0 krI es σ [vR 11 0, vI x1, vI x2, vI x3, y4, y5, y6] [vI x1, vR 11 0] := rfl
theorem t_X11_fair_8 {G : Nat → zH → List zAV → List zAV → Option (zH × Int32)} (es : List zEnt) (σ : zH) (x1 : Int32) (x2 : Int32) (x3 : Int32) (y4 : zAV) (y5 : zAV) (y6 : zAV) (w12 : Int32) : zev cc_X11_fair G 0 krI (zE 8 (.aload_n 0) 1 :: zEf 9 (.getfield 7) 3 11 1 149 (2, 42, 0) :: zEk 12 (.iconst 0) 1 w12 :: es) σ [vR 11 0, vI x1, vI x2, vI x3, y4, y5, y6] [] = zev cc_X11_fair G 0 krI es σ [vR 11 0, vI x1, vI x2, vI x3, y4, y5, y6] [vI w12, vR 42 0] := rfl
theorem t_X11_fair_17 {G : Nat → zH → List zAV → List zAV → Option (zH × Int32)} (es : List zEnt) (σ : zH) (x1 : Int32) (x2 : Int32) (x3 : Int32) (y4 : zAV) (y5 : zAV) (y6 : zAV) (w19 : Int64) (w20 : Int64) : zev cc_X11_fair G 0 krI (zE 17 (.iload_n 2) 1 :: zE 18 .i2l 1 :: (19, (.lconst 0), 1, (0, 0, 0, 0), (0, 0, 0), 0, w19, []) :: (20, (.ldc2_w 440), 3, (0, 0, 1603, 0), (0, 0, 0), 0, w20, []) :: es) σ [vR 11 0, vI x1, vI x2, vI x3, y4, y5, y6] [] = zev cc_X11_fair G 0 krI es σ [vR 11 0, vI x1, vI x2, vI x3, y4, y5, y6] [vL w20, vL w19, vL x2.toInt64] := rfl
theorem t_X11_fair_29 {G : Nat → zH → List zAV → List zAV → Option (zH × Int32)} (es : List zEnt) (σ : zH) (x1 : Int32) (x2 : Int32) (x3 : Int32) (y4 : zAV) (y5 : zAV) (y6 : zAV) (w31 : Int64) (w32 : Int64) : zev cc_X11_fair G 0 krI (zE 29 (.iload_n 3) 1 :: zE 30 .i2l 1 :: (31, (.lconst 0), 1, (0, 0, 0, 0), (0, 0, 0), 0, w31, []) :: (32, (.ldc2_w 451), 3, (0, 0, 1626, 0), (0, 0, 0), 0, w32, []) :: es) σ [vR 11 0, vI x1, vI x2, vI x3, y4, y5, y6] [] = zev cc_X11_fair G 0 krI es σ [vR 11 0, vI x1, vI x2, vI x3, y4, y5, y6] [vL w32, vL w31, vL x3.toInt64] := rfl
theorem t_X11_fair_41 {G : Nat → zH → List zAV → List zAV → Option (zH × Int32)} (es : List zEnt) (σ : zH)  (y0 : zAV) (y1 : zAV) (y2 : zAV) (y3 : zAV) (y4 : zAV) (y5 : zAV) (y6 : zAV) (w41 : Int32) : zev cc_X11_fair G 0 krI (zEk 41 (.iconst (-1)) 1 w41 :: es) σ [y0, y1, y2, y3, y4, y5, y6] [] = zev cc_X11_fair G 0 krI es σ [y0, y1, y2, y3, y4, y5, y6] [vI w41] := rfl
theorem t_X11_fair_43 {G : Nat → zH → List zAV → List zAV → Option (zH × Int32)} (es : List zEnt) (σ : zH) (x1 : Int32) (x2 : Int32) (x3 : Int32) (y4 : zAV) (y5 : zAV) (y6 : zAV) (w43 : Int32) : zev cc_X11_fair G 0 krI (zEk 43 (.iconst 0) 1 w43 :: zE 44 (.istore 4) 2 :: es) σ [vR 11 0, vI x1, vI x2, vI x3, y4, y5, y6] [] = zev cc_X11_fair G 0 krI es σ [vR 11 0, vI x1, vI x2, vI x3, vI w43, y5, y6] [] := rfl
theorem t_X11_fair_46 {G : Nat → zH → List zAV → List zAV → Option (zH × Int32)} (es : List zEnt) (σ : zH) (x1 : Int32) (x2 : Int32) (x3 : Int32) (x4 : Int32) (y5 : zAV) (y6 : zAV) (w48 : Int32) : zev cc_X11_fair G 0 krI (zE 46 (.iload 4) 2 :: zEk 48 (.bipush 12) 2 w48 :: es) σ [vR 11 0, vI x1, vI x2, vI x3, vI x4, y5, y6] [] = zev cc_X11_fair G 0 krI es σ [vR 11 0, vI x1, vI x2, vI x3, vI x4, y5, y6] [vI w48, vI x4] := rfl
theorem t_X11_fair_53 {G : Nat → zH → List zAV → List zAV → Option (zH × Int32)} (es : List zEnt) (σ : zH) (x1 : Int32) (x2 : Int32) (x3 : Int32) (x4 : Int32) (y5 : zAV) (y6 : zAV) (w59 : Int32) : zev cc_X11_fair G 0 krI (zE 53 (.aload_n 0) 1 :: zEf 54 (.getfield 160) 3 11 62 210 (2, 89, 0) :: zE 57 (.iload 4) 2 :: zEk 59 (.iconst 0) 1 w59 :: es) σ [vR 11 0, vI x1, vI x2, vI x3, vI x4, y5, y6] [] = zev cc_X11_fair G 0 krI es σ [vR 11 0, vI x1, vI x2, vI x3, vI x4, y5, y6] [vI w59, vI x4, vR 89 0] := rfl
theorem t_X11_fair_61 {G : Nat → zH → List zAV → List zAV → Option (zH × Int32)} (es : List zEnt) (σ : zH) (x1 : Int32) (x2 : Int32) (x3 : Int32) (x4 : Int32) (y5 : zAV) (y6 : zAV) (w61 : Int32) : zev cc_X11_fair G 0 krI (zEk 61 (.iinc 4 1) 3 w61 :: es) σ [vR 11 0, vI x1, vI x2, vI x3, vI x4, y5, y6] [] = zev cc_X11_fair G 0 krI es σ [vR 11 0, vI x1, vI x2, vI x3, vI (x4 + w61), y5, y6] [] := rfl
theorem t_X11_fair_67 {G : Nat → zH → List zAV → List zAV → Option (zH × Int32)} (es : List zEnt) (σ : zH) (x1 : Int32) (x2 : Int32) (x3 : Int32) (y4 : zAV) (y5 : zAV) (y6 : zAV)  : zev cc_X11_fair G 0 krI (zE 67 (.aload_n 0) 1 :: es) σ [vR 11 0, vI x1, vI x2, vI x3, y4, y5, y6] [] = zev cc_X11_fair G 0 krI es σ [vR 11 0, vI x1, vI x2, vI x3, y4, y5, y6] [vR 11 0] := rfl
theorem t_X11_fair_71 {G : Nat → zH → List zAV → List zAV → Option (zH × Int32)} (es : List zEnt) (σ : zH) (x1 : Int32) (x2 : Int32) (x3 : Int32) (y4 : zAV) (y5 : zAV) (y6 : zAV) (w71 : Int32) : zev cc_X11_fair G 0 krI (zEk 71 (.iconst 0) 1 w71 :: zE 72 (.istore 4) 2 :: es) σ [vR 11 0, vI x1, vI x2, vI x3, y4, y5, y6] [] = zev cc_X11_fair G 0 krI es σ [vR 11 0, vI x1, vI x2, vI x3, vI w71, y5, y6] [] := rfl
theorem t_X11_fair_74 {G : Nat → zH → List zAV → List zAV → Option (zH × Int32)} (es : List zEnt) (σ : zH) (x1 : Int32) (x2 : Int32) (x3 : Int32) (x4 : Int32) (y5 : zAV) (y6 : zAV)  : zev cc_X11_fair G 0 krI (zE 74 (.iload 4) 2 :: zE 76 (.iload_n 2) 1 :: es) σ [vR 11 0, vI x1, vI x2, vI x3, vI x4, y5, y6] [] = zev cc_X11_fair G 0 krI es σ [vR 11 0, vI x1, vI x2, vI x3, vI x4, y5, y6] [vI x2, vI x4] := rfl
theorem t_X11_fair_80 {G : Nat → zH → List zAV → List zAV → Option (zH × Int32)} (es : List zEnt) (σ : zH) (x1 : Int32) (x2 : Int32) (x3 : Int32) (x4 : Int32) (y5 : zAV) (y6 : zAV)  : zev cc_X11_fair G 0 krI (zE 80 (.aload_n 0) 1 :: zE 81 (.iload_n 1) 1 :: es) σ [vR 11 0, vI x1, vI x2, vI x3, vI x4, y5, y6] [] = zev cc_X11_fair G 0 krI es σ [vR 11 0, vI x1, vI x2, vI x3, vI x4, y5, y6] [vI x1, vR 11 0] := rfl
theorem t_X11_fair_85 {G : Nat → zH → List zAV → List zAV → Option (zH × Int32)} (es : List zEnt) (σ : zH) (x1 : Int32) (x2 : Int32) (x3 : Int32) (x4 : Int32) (y5 : zAV) (y6 : zAV) (w85 : Int32) : zev cc_X11_fair G 0 krI (zEk 85 (.iconst 0) 1 w85 :: zE 86 (.istore 5) 2 :: es) σ [vR 11 0, vI x1, vI x2, vI x3, vI x4, y5, y6] [] = zev cc_X11_fair G 0 krI es σ [vR 11 0, vI x1, vI x2, vI x3, vI x4, vI w85, y6] [] := rfl
theorem t_X11_fair_88 {G : Nat → zH → List zAV → List zAV → Option (zH × Int32)} (es : List zEnt) (σ : zH) (x1 : Int32) (x2 : Int32) (x3 : Int32) (x4 : Int32) (x5 : Int32) (y6 : zAV) (w94 : Int32) : zev cc_X11_fair G 0 krI (zE 88 (.iload 5) 2 :: zE 90 (.aload_n 0) 1 :: zEf 91 (.getfield 7) 3 11 1 149 (2, 42, 0) :: zEk 94 (.iconst 0) 1 w94 :: es) σ [vR 11 0, vI x1, vI x2, vI x3, vI x4, vI x5, y6] [] = zev cc_X11_fair G 0 krI es σ [vR 11 0, vI x1, vI x2, vI x3, vI x4, vI x5, y6] [vI w94, vR 42 0, vI x5] := rfl
theorem t_X11_fair_99 {G : Nat → zH → List zAV → List zAV → Option (zH × Int32)} (es : List zEnt) (σ : zH) (x1 : Int32) (x2 : Int32) (x3 : Int32) (x4 : Int32) (x5 : Int32) (y6 : zAV)  : zev cc_X11_fair G 0 krI (zE 99 (.aload_n 0) 1 :: zEf 100 (.getfield 160) 3 11 62 210 (2, 89, 0) :: zE 103 (.iload 5) 2 :: zE 105 .dup2 1 :: es) σ [vR 11 0, vI x1, vI x2, vI x3, vI x4, vI x5, y6] [] = zev cc_X11_fair G 0 krI es σ [vR 11 0, vI x1, vI x2, vI x3, vI x4, vI x5, y6] [vI x5, vR 89 0, vI x5, vR 89 0] := rfl
theorem t_X11_fair_107 {G : Nat → zH → List zAV → List zAV → Option (zH × Int32)} (es : List zEnt) (σ : zH) (x1 : Int32) (x2 : Int32) (x3 : Int32) (x4 : Int32) (x5 : Int32) (xs1 : Int32) (xs2 : Int32) (y6 : zAV)  : zev cc_X11_fair G 0 krI (zE 107 (.aload_n 0) 1 :: zEf 108 (.getfield 70) 3 11 21 169 (2, 62, 0) :: zE 111 (.iload 5) 2 :: es) σ [vR 11 0, vI x1, vI x2, vI x3, vI x4, vI x5, y6] [vI xs2, vI xs1, vR 89 0] = zev cc_X11_fair G 0 krI es σ [vR 11 0, vI x1, vI x2, vI x3, vI x4, vI x5, y6] [vI x5, vR 62 0, vI xs2, vI xs1, vR 89 0] := rfl
theorem t_X11_fair_114 {G : Nat → zH → List zAV → List zAV → Option (zH × Int32)} (es : List zEnt) (σ : zH) (x1 : Int32) (x2 : Int32) (x3 : Int32) (x4 : Int32) (x5 : Int32) (xs1 : Int32) (xs2 : Int32) (xs3 : Int32) (y6 : zAV)  : zev cc_X11_fair G 0 krI (zE 114 .iadd 1 :: es) σ [vR 11 0, vI x1, vI x2, vI x3, vI x4, vI x5, y6] [vI xs3, vI xs2, vI xs1, vR 89 0] = zev cc_X11_fair G 0 krI es σ [vR 11 0, vI x1, vI x2, vI x3, vI x4, vI x5, y6] [vI (xs2 + xs3), vI xs1, vR 89 0] := rfl
theorem t_X11_fair_116 {G : Nat → zH → List zAV → List zAV → Option (zH × Int32)} (es : List zEnt) (σ : zH) (x1 : Int32) (x2 : Int32) (x3 : Int32) (x4 : Int32) (x5 : Int32) (y6 : zAV) (w116 : Int32) : zev cc_X11_fair G 0 krI (zEk 116 (.iinc 5 1) 3 w116 :: es) σ [vR 11 0, vI x1, vI x2, vI x3, vI x4, vI x5, y6] [] = zev cc_X11_fair G 0 krI es σ [vR 11 0, vI x1, vI x2, vI x3, vI x4, vI (x5 + w116), y6] [] := rfl
theorem t_X11_fair_122 {G : Nat → zH → List zAV → List zAV → Option (zH × Int32)} (es : List zEnt) (σ : zH) (x1 : Int32) (x2 : Int32) (x3 : Int32) (x4 : Int32) (y5 : zAV) (y6 : zAV) (w122 : Int32) : zev cc_X11_fair G 0 krI (zEk 122 (.iinc 4 1) 3 w122 :: es) σ [vR 11 0, vI x1, vI x2, vI x3, vI x4, y5, y6] [] = zev cc_X11_fair G 0 krI es σ [vR 11 0, vI x1, vI x2, vI x3, vI (x4 + w122), y5, y6] [] := rfl
theorem t_X11_fair_128 {G : Nat → zH → List zAV → List zAV → Option (zH × Int32)} (es : List zEnt) (σ : zH) (x3 : Int32) (y1 : zAV) (y2 : zAV) (y4 : zAV) (y5 : zAV) (y6 : zAV)  : zev cc_X11_fair G 0 krI (zE 128 (.aload_n 0) 1 :: es) σ [vR 11 0, y1, y2, vI x3, y4, y5, y6] [] = zev cc_X11_fair G 0 krI es σ [vR 11 0, y1, y2, vI x3, y4, y5, y6] [vR 11 0] := rfl
theorem t_X11_fair_132 {G : Nat → zH → List zAV → List zAV → Option (zH × Int32)} (es : List zEnt) (σ : zH) (x3 : Int32) (y1 : zAV) (y2 : zAV) (y4 : zAV) (y5 : zAV) (y6 : zAV) (w132 : Int32) (w135 : Int32) (w138 : Int32) : zev cc_X11_fair G 0 krI (zEk 132 (.iconst 0) 1 w132 :: zE 133 (.istore 4) 2 :: zEk 135 (.iconst 0) 1 w135 :: zE 136 (.istore 5) 2 :: zEk 138 (.iconst 1) 1 w138 :: zE 139 (.istore 6) 2 :: es) σ [vR 11 0, y1, y2, vI x3, y4, y5, y6] [] = zev cc_X11_fair G 0 krI es σ [vR 11 0, y1, y2, vI x3, vI w132, vI w135, vI w138] [] := rfl
theorem t_X11_fair_141 {G : Nat → zH → List zAV → List zAV → Option (zH × Int32)} (es : List zEnt) (σ : zH) (x3 : Int32) (x4 : Int32) (x5 : Int32) (x6 : Int32) (y1 : zAV) (y2 : zAV) (w147 : Int32) : zev cc_X11_fair G 0 krI (zE 141 (.iload 6) 2 :: zE 143 (.aload_n 0) 1 :: zEf 144 (.getfield 7) 3 11 1 149 (2, 42, 0) :: zEk 147 (.iconst 0) 1 w147 :: es) σ [vR 11 0, y1, y2, vI x3, vI x4, vI x5, vI x6] [] = zev cc_X11_fair G 0 krI es σ [vR 11 0, y1, y2, vI x3, vI x4, vI x5, vI x6] [vI w147, vR 42 0, vI x6] := rfl
theorem t_X11_fair_152 {G : Nat → zH → List zAV → List zAV → Option (zH × Int32)} (es : List zEnt) (σ : zH) (x3 : Int32) (x4 : Int32) (x5 : Int32) (x6 : Int32) (y1 : zAV) (y2 : zAV)  : zev cc_X11_fair G 0 krI (zE 152 (.aload_n 0) 1 :: zEf 153 (.getfield 160) 3 11 62 210 (2, 89, 0) :: zE 156 (.iload 6) 2 :: es) σ [vR 11 0, y1, y2, vI x3, vI x4, vI x5, vI x6] [] = zev cc_X11_fair G 0 krI es σ [vR 11 0, y1, y2, vI x3, vI x4, vI x5, vI x6] [vI x6, vR 89 0] := rfl
theorem t_X11_fair_159 {G : Nat → zH → List zAV → List zAV → Option (zH × Int32)} (es : List zEnt) (σ : zH) (x3 : Int32) (x4 : Int32) (x5 : Int32) (x6 : Int32) (xs0 : Int32) (y1 : zAV) (y2 : zAV)  : zev cc_X11_fair G 0 krI (zE 159 (.aload_n 0) 1 :: zEf 160 (.getfield 160) 3 11 62 210 (2, 89, 0) :: zE 163 (.iload 4) 2 :: es) σ [vR 11 0, y1, y2, vI x3, vI x4, vI x5, vI x6] [vI xs0] = zev cc_X11_fair G 0 krI es σ [vR 11 0, y1, y2, vI x3, vI x4, vI x5, vI x6] [vI x4, vR 89 0, vI xs0] := rfl
theorem t_X11_fair_169 {G : Nat → zH → List zAV → List zAV → Option (zH × Int32)} (es : List zEnt) (σ : zH) (x3 : Int32) (x5 : Int32) (x6 : Int32) (y1 : zAV) (y2 : zAV) (y4 : zAV)  : zev cc_X11_fair G 0 krI (zE 169 (.iload 6) 2 :: es) σ [vR 11 0, y1, y2, vI x3, y4, vI x5, vI x6] [] = zev cc_X11_fair G 0 krI es σ [vR 11 0, y1, y2, vI x3, y4, vI x5, vI x6] [vI x6] := rfl
theorem t_X11_fair_174 {G : Nat → zH → List zAV → List zAV → Option (zH × Int32)} (es : List zEnt) (σ : zH) (x3 : Int32) (x4 : Int32) (x5 : Int32) (x6 : Int32) (y1 : zAV) (y2 : zAV)  : zev cc_X11_fair G 0 krI (zE 174 (.iload 4) 2 :: es) σ [vR 11 0, y1, y2, vI x3, vI x4, vI x5, vI x6] [] = zev cc_X11_fair G 0 krI es σ [vR 11 0, y1, y2, vI x3, vI x4, vI x5, vI x6] [vI x4] := rfl
theorem t_X11_fair_176 {G : Nat → zH → List zAV → List zAV → Option (zH × Int32)} (es : List zEnt) (σ : zH) (x3 : Int32) (x5 : Int32) (x6 : Int32) (xs0 : Int32) (y1 : zAV) (y2 : zAV) (y4 : zAV)  : zev cc_X11_fair G 0 krI (zE 176 (.istore 4) 2 :: zE 178 (.aload_n 0) 1 :: zEf 179 (.getfield 160) 3 11 62 210 (2, 89, 0) :: zE 182 (.iload 6) 2 :: es) σ [vR 11 0, y1, y2, vI x3, y4, vI x5, vI x6] [vI xs0] = zev cc_X11_fair G 0 krI es σ [vR 11 0, y1, y2, vI x3, vI xs0, vI x5, vI x6] [vI x6, vR 89 0] := rfl
theorem t_X11_fair_185 {G : Nat → zH → List zAV → List zAV → Option (zH × Int32)} (es : List zEnt) (σ : zH) (x3 : Int32) (x4 : Int32) (x5 : Int32) (x6 : Int32) (xs0 : Int32) (y1 : zAV) (y2 : zAV)  : zev cc_X11_fair G 0 krI (zE 185 (.aload_n 0) 1 :: zEf 186 (.getfield 160) 3 11 62 210 (2, 89, 0) :: zE 189 (.iload 5) 2 :: es) σ [vR 11 0, y1, y2, vI x3, vI x4, vI x5, vI x6] [vI xs0] = zev cc_X11_fair G 0 krI es σ [vR 11 0, y1, y2, vI x3, vI x4, vI x5, vI x6] [vI x5, vR 89 0, vI xs0] := rfl
theorem t_X11_fair_195 {G : Nat → zH → List zAV → List zAV → Option (zH × Int32)} (es : List zEnt) (σ : zH) (x3 : Int32) (x4 : Int32) (x6 : Int32) (y1 : zAV) (y2 : zAV) (y5 : zAV)  : zev cc_X11_fair G 0 krI (zE 195 (.iload 6) 2 :: es) σ [vR 11 0, y1, y2, vI x3, vI x4, y5, vI x6] [] = zev cc_X11_fair G 0 krI es σ [vR 11 0, y1, y2, vI x3, vI x4, y5, vI x6] [vI x6] := rfl
theorem t_X11_fair_200 {G : Nat → zH → List zAV → List zAV → Option (zH × Int32)} (es : List zEnt) (σ : zH) (x3 : Int32) (x4 : Int32) (x5 : Int32) (x6 : Int32) (y1 : zAV) (y2 : zAV)  : zev cc_X11_fair G 0 krI (zE 200 (.iload 5) 2 :: es) σ [vR 11 0, y1, y2, vI x3, vI x4, vI x5, vI x6] [] = zev cc_X11_fair G 0 krI es σ [vR 11 0, y1, y2, vI x3, vI x4, vI x5, vI x6] [vI x5] := rfl
theorem t_X11_fair_202 {G : Nat → zH → List zAV → List zAV → Option (zH × Int32)} (es : List zEnt) (σ : zH) (x3 : Int32) (x4 : Int32) (x6 : Int32) (xs0 : Int32) (y1 : zAV) (y2 : zAV) (y5 : zAV) (w204 : Int32) : zev cc_X11_fair G 0 krI (zE 202 (.istore 5) 2 :: zEk 204 (.iinc 6 1) 3 w204 :: es) σ [vR 11 0, y1, y2, vI x3, vI x4, y5, vI x6] [vI xs0] = zev cc_X11_fair G 0 krI es σ [vR 11 0, y1, y2, vI x3, vI x4, vI xs0, vI (x6 + w204)] [] := rfl
theorem t_X11_fair_210 {G : Nat → zH → List zAV → List zAV → Option (zH × Int32)} (es : List zEnt) (σ : zH) (x3 : Int32) (x4 : Int32) (x5 : Int32) (y1 : zAV) (y2 : zAV) (y6 : zAV)  : zev cc_X11_fair G 0 krI (zE 210 (.iload_n 3) 1 :: es) σ [vR 11 0, y1, y2, vI x3, vI x4, vI x5, y6] [] = zev cc_X11_fair G 0 krI es σ [vR 11 0, y1, y2, vI x3, vI x4, vI x5, y6] [vI x3] := rfl
theorem t_X11_fair_214 {G : Nat → zH → List zAV → List zAV → Option (zH × Int32)} (es : List zEnt) (σ : zH) (x4 : Int32) (y0 : zAV) (y1 : zAV) (y2 : zAV) (y3 : zAV) (y5 : zAV) (y6 : zAV)  : zev cc_X11_fair G 0 krI (zE 214 (.iload 4) 2 :: es) σ [y0, y1, y2, y3, vI x4, y5, y6] [] = zev cc_X11_fair G 0 krI es σ [y0, y1, y2, y3, vI x4, y5, y6] [vI x4] := rfl
theorem t_X11_fair_219 {G : Nat → zH → List zAV → List zAV → Option (zH × Int32)} (es : List zEnt) (σ : zH) (x3 : Int32) (x4 : Int32) (x5 : Int32) (y1 : zAV) (y2 : zAV) (y6 : zAV) (w220 : Int32) : zev cc_X11_fair G 0 krI (zE 219 (.iload_n 3) 1 :: zEk 220 (.iconst 1) 1 w220 :: es) σ [vR 11 0, y1, y2, vI x3, vI x4, vI x5, y6] [] = zev cc_X11_fair G 0 krI es σ [vR 11 0, y1, y2, vI x3, vI x4, vI x5, y6] [vI w220, vI x3] := rfl
theorem t_X11_fair_224 {G : Nat → zH → List zAV → List zAV → Option (zH × Int32)} (es : List zEnt) (σ : zH) (x5 : Int32) (y0 : zAV) (y1 : zAV) (y2 : zAV) (y3 : zAV) (y4 : zAV) (y6 : zAV)  : zev cc_X11_fair G 0 krI (zE 224 (.iload 5) 2 :: es) σ [y0, y1, y2, y3, y4, vI x5, y6] [] = zev cc_X11_fair G 0 krI es σ [y0, y1, y2, y3, y4, vI x5, y6] [vI x5] := rfl
theorem t_X11_fair_229 {G : Nat → zH → List zAV → List zAV → Option (zH × Int32)} (es : List zEnt) (σ : zH) (x4 : Int32) (x5 : Int32) (y1 : zAV) (y2 : zAV) (y3 : zAV) (y6 : zAV)  : zev cc_X11_fair G 0 krI (zE 229 (.aload_n 0) 1 :: zEf 230 (.getfield 160) 3 11 62 210 (2, 89, 0) :: zE 233 (.iload 4) 2 :: es) σ [vR 11 0, y1, y2, y3, vI x4, vI x5, y6] [] = zev cc_X11_fair G 0 krI es σ [vR 11 0, y1, y2, y3, vI x4, vI x5, y6] [vI x4, vR 89 0] := rfl
theorem t_X11_fair_236 {G : Nat → zH → List zAV → List zAV → Option (zH × Int32)} (es : List zEnt) (σ : zH) (x5 : Int32) (xs0 : Int32) (y1 : zAV) (y2 : zAV) (y3 : zAV) (y4 : zAV) (y6 : zAV)  : zev cc_X11_fair G 0 krI (zE 236 (.aload_n 0) 1 :: zEf 237 (.getfield 160) 3 11 62 210 (2, 89, 0) :: zE 240 (.iload 5) 2 :: es) σ [vR 11 0, y1, y2, y3, y4, vI x5, y6] [vI xs0] = zev cc_X11_fair G 0 krI es σ [vR 11 0, y1, y2, y3, y4, vI x5, y6] [vI x5, vR 89 0, vI xs0] := rfl
theorem t_X11_fair_243 {G : Nat → zH → List zAV → List zAV → Option (zH × Int32)} (es : List zEnt) (σ : zH) (xs0 : Int32) (xs1 : Int32) (y0 : zAV) (y1 : zAV) (y2 : zAV) (y3 : zAV) (y4 : zAV) (y5 : zAV) (y6 : zAV)  : zev cc_X11_fair G 0 krI (zE 243 .isub 1 :: es) σ [y0, y1, y2, y3, y4, y5, y6] [vI xs1, vI xs0] = zev cc_X11_fair G 0 krI es σ [y0, y1, y2, y3, y4, y5, y6] [vI (xs0 - xs1)] := rfl
noncomputable def k_X11_fair_46 (c67 : zH → Int32 → Int32 → Int32 → Option (zH × Int32)) : Nat → zH → Int32 → Int32 → Int32 → Int32 → Option (zH × Int32)
  | 0, _, _, _, _, _ => none
  | n + 1, σ, x1, x2, x3, x4 =>
    if x4 < (12 : Int32) then
      ix x4 12 fun j2 =>
      zlet (uI σ 89 0 j2 (0 : Int32)) fun σ1 =>
      (k_X11_fair_46 c67 n) σ1 x1 x2 x3 (x4 + (1 : Int32))
    else
      c67 σ x1 x2 x3
theorem e_X11_fair_46 (c67 : zH → Int32 → Int32 → Int32 → Option (zH × Int32)) (n : Nat) (σ : zH) (x1 : Int32) (x2 : Int32) (x3 : Int32) (x4 : Int32) (y5 : zAV) (y6 : zAV) : k_X11_fair_46 c67 (n + 1) σ x1 x2 x3 x4 = zin cc_X11_fair (fun t => if t = 46 then some (gl_X11_fair_46 (k_X11_fair_46 c67 n)) else if t = 67 then some (gl_X11_fair_67 c67) else none) 0 krI b_X11_fair 46 σ [vR 11 0, vI x1, vI x2, vI x3, vI x4, y5, y6] [] := by
  rw [k_X11_fair_46]
  refine Eq.symm ((zin_b (es := q_X11_fair_46) rfl).trans ?_)
  refine (t_X11_fair_46 _ _ _ _ _ _ _ _ _).trans ?_
  refine x_icmp.trans (pif_ge ?_ ?_)
  · exact (zrun_c rfl).trans (glr_X11_fair_67 _ _ _ _ _ _ _ _)
  · refine (t_X11_fair_53 _ _ _ _ _ _ _ _ _).trans ?_
    refine (x_iast (N := 12) rfl rfl).trans (pix fun _ => plt fun _ => ?_)
    refine (t_X11_fair_61 _ _ _ _ _ _ _ _ _).trans ?_
    refine x_goto.trans ?_
    exact (zrun_c rfl).trans (glr_X11_fair_46 _ _ _ _ _ _ _ _)
theorem s_X11_fair_46 {X : zX} (hX : zHX X) {c67 : zH → Int32 → Int32 → Int32 → Option (zH × Int32)} (h67 : ∀ σ L st r, gl_X11_fair_67 c67 σ L st = some r → zGW X 207 krI 67 σ L st r) : ∀ n σ L st r, gl_X11_fair_46 (k_X11_fair_46 c67 n) σ L st = some r → zGW X 207 krI 46 σ L st r := by
  intro n
  induction n with
  | zero =>
    intro σ L st r h
    unfold gl_X11_fair_46 at h
    split at h <;> cases h
  | succ n ih =>
    intro σ L st r h
    unfold gl_X11_fair_46 at h
    split at h
    · exact zin_ok (hy_X11_fair hX) bk_X11_fair (fun t f hf => by
      by_cases e46 : t = 46
      · rw [if_pos e46] at hf; subst e46; cases hf; exact ih
      rw [if_neg e46] at hf
      by_cases e67 : t = 67
      · rw [if_pos e67] at hf; subst e67; cases hf; exact h67
      rw [if_neg e67] at hf
      cases hf) ((e_X11_fair_46 _ _ _ _ _ _ _ _ _).symm.trans h)
    · cases h
noncomputable def k_X11_fair_88 (c122 : zH → Int32 → Int32 → Int32 → Int32 → Option (zH × Int32)) : Nat → zH → Int32 → Int32 → Int32 → Int32 → Int32 → Option (zH × Int32)
  | 0, _, _, _, _, _, _ => none
  | n + 1, σ, x1, x2, x3, x4, x5 =>
    if x5 < (σ.1 42 0 0) then
      ix x5 12 fun j1 =>
      ix x5 12 fun j2 =>
      ix x5 12 fun j4 =>
      zlet (uI σ 89 0 j4 ((σ.1 89 0 j1) + (σ.1 62 0 j2))) fun σ3 =>
      (k_X11_fair_88 c122 n) σ3 x1 x2 x3 x4 (x5 + (1 : Int32))
    else
      c122 σ x1 x2 x3 x4
theorem e_X11_fair_88 (c122 : zH → Int32 → Int32 → Int32 → Int32 → Option (zH × Int32)) (n : Nat) (σ : zH) (x1 : Int32) (x2 : Int32) (x3 : Int32) (x4 : Int32) (x5 : Int32) (y6 : zAV) : k_X11_fair_88 c122 (n + 1) σ x1 x2 x3 x4 x5 = zin cc_X11_fair (fun t => if t = 88 then some (gl_X11_fair_88 (k_X11_fair_88 c122 n)) else if t = 122 then some (gl_X11_fair_122 c122) else none) 0 krI b_X11_fair 88 σ [vR 11 0, vI x1, vI x2, vI x3, vI x4, vI x5, y6] [] := by
  rw [k_X11_fair_88]
  refine Eq.symm ((zin_b (es := q_X11_fair_88) rfl).trans ?_)
  refine (t_X11_fair_88 _ _ _ _ _ _ _ _ _).trans ?_
  refine ((x_iald (N := 11) rfl rfl).trans (ix_l 0 (by decide +kernel))).trans ?_
  refine x_icmp.trans (pif_ge ?_ ?_)
  · exact (zrun_c rfl).trans (glr_X11_fair_122 _ _ _ _ _ _ _ _)
  · refine (t_X11_fair_99 _ _ _ _ _ _ _ _).trans ?_
    refine (x_iald (N := 12) rfl rfl).trans (pix fun _ => ?_)
    refine (t_X11_fair_107 _ _ _ _ _ _ _ _ _ _).trans ?_
    refine (x_iald (N := 12) rfl rfl).trans (pix fun _ => ?_)
    refine (t_X11_fair_114 _ _ _ _ _ _ _ _ _ _ _).trans ?_
    refine (x_iast (N := 12) rfl rfl).trans (pix fun _ => plt fun _ => ?_)
    refine (t_X11_fair_116 _ _ _ _ _ _ _ _ _).trans ?_
    refine x_goto.trans ?_
    exact (zrun_c rfl).trans (glr_X11_fair_88 _ _ _ _ _ _ _ _)
theorem s_X11_fair_88 {X : zX} (hX : zHX X) {c122 : zH → Int32 → Int32 → Int32 → Int32 → Option (zH × Int32)} (h122 : ∀ σ L st r, gl_X11_fair_122 c122 σ L st = some r → zGW X 207 krI 122 σ L st r) : ∀ n σ L st r, gl_X11_fair_88 (k_X11_fair_88 c122 n) σ L st = some r → zGW X 207 krI 88 σ L st r := by
  intro n
  induction n with
  | zero =>
    intro σ L st r h
    unfold gl_X11_fair_88 at h
    split at h <;> cases h
  | succ n ih =>
    intro σ L st r h
    unfold gl_X11_fair_88 at h
    split at h
    · exact zin_ok (hy_X11_fair hX) bk_X11_fair (fun t f hf => by
      by_cases e88 : t = 88
      · rw [if_pos e88] at hf; subst e88; cases hf; exact ih
      rw [if_neg e88] at hf
      by_cases e122 : t = 122
      · rw [if_pos e122] at hf; subst e122; cases hf; exact h122
      rw [if_neg e122] at hf
      cases hf) ((e_X11_fair_88 _ _ _ _ _ _ _ _ _).symm.trans h)
    · cases h
noncomputable def j_X11_fair_122 (c74 : zH → Int32 → Int32 → Int32 → Int32 → Option (zH × Int32)) (σ : zH) (x1 : Int32) (x2 : Int32) (x3 : Int32) (x4 : Int32) : Option (zH × Int32) :=
  c74 σ x1 x2 x3 (x4 + (1 : Int32))
theorem e_X11_fair_122 (c74 : zH → Int32 → Int32 → Int32 → Int32 → Option (zH × Int32)) (σ : zH) (x1 : Int32) (x2 : Int32) (x3 : Int32) (x4 : Int32) (y5 : zAV) (y6 : zAV) : j_X11_fair_122 c74 σ x1 x2 x3 x4 = zin cc_X11_fair (fun t => if t = 74 then some (gl_X11_fair_74 c74) else none) 0 krI b_X11_fair 122 σ [vR 11 0, vI x1, vI x2, vI x3, vI x4, y5, y6] [] := by
  unfold j_X11_fair_122
  refine Eq.symm ((zin_b (es := q_X11_fair_122) rfl).trans ?_)
  refine (t_X11_fair_122 _ _ _ _ _ _ _ _ _).trans ?_
  refine x_goto.trans ?_
  exact (zrun_c rfl).trans (glr_X11_fair_74 _ _ _ _ _ _ _ _)
theorem s_X11_fair_122 {X : zX} (hX : zHX X) {c74 : zH → Int32 → Int32 → Int32 → Int32 → Option (zH × Int32)} (h74 : ∀ σ L st r, gl_X11_fair_74 c74 σ L st = some r → zGW X 207 krI 74 σ L st r) : ∀ σ L st r, gl_X11_fair_122 (j_X11_fair_122 c74) σ L st = some r → zGW X 207 krI 122 σ L st r := by
  intro σ L st r h
  unfold gl_X11_fair_122 at h
  split at h
  · exact zin_ok (hy_X11_fair hX) bk_X11_fair (fun t f hf => by
    by_cases e74 : t = 74
    · rw [if_pos e74] at hf; subst e74; cases hf; exact h74
    rw [if_neg e74] at hf
    cases hf) ((e_X11_fair_122 _ _ _ _ _ _ _ _).symm.trans h)
  · cases h
noncomputable def k_X11_fair_74 (c128 : zH → Int32 → Option (zH × Int32)) : Nat → zH → Int32 → Int32 → Int32 → Int32 → Option (zH × Int32)
  | 0, _, _, _, _, _ => none
  | n + 1, σ, x1, x2, x3, x4 =>
    if x4 < x2 then
      (d_X11_quarter σ x1).bind fun σ1 =>
      (k_X11_fair_88 (j_X11_fair_122 (k_X11_fair_74 c128 n)) zN) σ1 x1 x2 x3 x4 (0 : Int32)
    else
      c128 σ x3
theorem e_X11_fair_74 (c128 : zH → Int32 → Option (zH × Int32)) (n : Nat) (σ : zH) (x1 : Int32) (x2 : Int32) (x3 : Int32) (x4 : Int32) (y5 : zAV) (y6 : zAV) : k_X11_fair_74 c128 (n + 1) σ x1 x2 x3 x4 = zin cc_X11_fair (fun t => if t = 88 then some (gl_X11_fair_88 (k_X11_fair_88 (j_X11_fair_122 (k_X11_fair_74 c128 n)) zN)) else if t = 128 then some (gl_X11_fair_128 c128) else none) 0 krI b_X11_fair 74 σ [vR 11 0, vI x1, vI x2, vI x3, vI x4, y5, y6] [] := by
  rw [k_X11_fair_74]
  refine Eq.symm ((zin_b (es := q_X11_fair_74) rfl).trans ?_)
  refine (t_X11_fair_74 _ _ _ _ _ _ _ _).trans ?_
  refine x_icmp.trans (pif_ge ?_ ?_)
  · exact (zrun_c rfl).trans (glr_X11_fair_128 _ _ _ _ _ _ _ _)
  · refine (t_X11_fair_80 _ _ _ _ _ _ _ _).trans ?_
    refine (x_callV rfl rfl rfl rfl).trans ((cl_X11_fair_X11_quarter _ _ _).trans ((gr_X11_quarter _ _ _).trans (pbd fun _ => ?_)))
    refine (t_X11_fair_85 _ _ _ _ _ _ _ _ _).trans ?_
    refine x_cut.trans ?_
    exact (zrun_c rfl).trans (glr_X11_fair_88 _ _ _ _ _ _ _ _)
theorem s_X11_fair_74 {X : zX} (hX : zHX X) {c128 : zH → Int32 → Option (zH × Int32)} (h128 : ∀ σ L st r, gl_X11_fair_128 c128 σ L st = some r → zGW X 207 krI 128 σ L st r) : ∀ n σ L st r, gl_X11_fair_74 (k_X11_fair_74 c128 n) σ L st = some r → zGW X 207 krI 74 σ L st r := by
  intro n
  induction n with
  | zero =>
    intro σ L st r h
    unfold gl_X11_fair_74 at h
    split at h <;> cases h
  | succ n ih =>
    intro σ L st r h
    unfold gl_X11_fair_74 at h
    split at h
    · exact zin_ok (hy_X11_fair hX) bk_X11_fair (fun t f hf => by
      by_cases e88 : t = 88
      · rw [if_pos e88] at hf; subst e88; cases hf; exact ((fun σ L st r h => s_X11_fair_88 hX (s_X11_fair_122 hX ih) zN σ L st r h))
      rw [if_neg e88] at hf
      by_cases e128 : t = 128
      · rw [if_pos e128] at hf; subst e128; cases hf; exact h128
      rw [if_neg e128] at hf
      cases hf) ((e_X11_fair_74 _ _ _ _ _ _ _ _ _).symm.trans h)
    · cases h
noncomputable def j_X11_fair_202 (c141 : zH → Int32 → Int32 → Int32 → Int32 → Option (zH × Int32)) (σ : zH) (x3 : Int32) (x4 : Int32) (x6 : Int32) (xs0 : Int32) : Option (zH × Int32) :=
  c141 σ x3 x4 xs0 (x6 + (1 : Int32))
theorem e_X11_fair_202 (c141 : zH → Int32 → Int32 → Int32 → Int32 → Option (zH × Int32)) (σ : zH) (x3 : Int32) (x4 : Int32) (x6 : Int32) (xs0 : Int32) (y1 : zAV) (y2 : zAV) (y5 : zAV) : j_X11_fair_202 c141 σ x3 x4 x6 xs0 = zin cc_X11_fair (fun t => if t = 141 then some (gl_X11_fair_141 c141) else none) 0 krI b_X11_fair 202 σ [vR 11 0, y1, y2, vI x3, vI x4, y5, vI x6] [vI xs0] := by
  unfold j_X11_fair_202
  refine Eq.symm ((zin_b (es := q_X11_fair_202) rfl).trans ?_)
  refine (t_X11_fair_202 _ _ _ _ _ _ _ _ _ _).trans ?_
  refine x_goto.trans ?_
  exact (zrun_c rfl).trans (glr_X11_fair_141 _ _ _ _ _ _ _ _)
theorem s_X11_fair_202 {X : zX} (hX : zHX X) {c141 : zH → Int32 → Int32 → Int32 → Int32 → Option (zH × Int32)} (h141 : ∀ σ L st r, gl_X11_fair_141 c141 σ L st = some r → zGW X 207 krI 141 σ L st r) : ∀ σ L st r, gl_X11_fair_202 (j_X11_fair_202 c141) σ L st = some r → zGW X 207 krI 202 σ L st r := by
  intro σ L st r h
  unfold gl_X11_fair_202 at h
  split at h
  · exact zin_ok (hy_X11_fair hX) bk_X11_fair (fun t f hf => by
    by_cases e141 : t = 141
    · rw [if_pos e141] at hf; subst e141; cases hf; exact h141
    rw [if_neg e141] at hf
    cases hf) ((e_X11_fair_202 _ _ _ _ _ _ _ _ _).symm.trans h)
  · cases h
noncomputable def j_X11_fair_176 (c141 : zH → Int32 → Int32 → Int32 → Int32 → Option (zH × Int32)) (σ : zH) (x3 : Int32) (x5 : Int32) (x6 : Int32) (xs0 : Int32) : Option (zH × Int32) :=
  ix x6 12 fun j1 =>
  ix x5 12 fun j2 =>
  if (σ.1 89 0 j1) < (σ.1 89 0 j2) then
    (j_X11_fair_202 c141) σ x3 xs0 x6 x6
  else
    (j_X11_fair_202 c141) σ x3 xs0 x6 x5
theorem e_X11_fair_176 (c141 : zH → Int32 → Int32 → Int32 → Int32 → Option (zH × Int32)) (σ : zH) (x3 : Int32) (x5 : Int32) (x6 : Int32) (xs0 : Int32) (y1 : zAV) (y2 : zAV) (y4 : zAV) : j_X11_fair_176 c141 σ x3 x5 x6 xs0 = zin cc_X11_fair (fun t => if t = 202 then some (gl_X11_fair_202 (j_X11_fair_202 c141)) else none) 0 krI b_X11_fair 176 σ [vR 11 0, y1, y2, vI x3, y4, vI x5, vI x6] [vI xs0] := by
  unfold j_X11_fair_176
  refine Eq.symm ((zin_b (es := q_X11_fair_176) rfl).trans ?_)
  refine (t_X11_fair_176 _ _ _ _ _ _ _ _ _).trans ?_
  refine (x_iald (N := 12) rfl rfl).trans (pix fun _ => ?_)
  refine (t_X11_fair_185 _ _ _ _ _ _ _ _ _).trans ?_
  refine (x_iald (N := 12) rfl rfl).trans (pix fun _ => ?_)
  refine x_icmp.trans (pif_ge ?_ ?_)
  · refine (zrun_b (es := q_X11_fair_200) rfl rfl).trans ?_
    refine (t_X11_fair_200 _ _ _ _ _ _ _ _).trans ?_
    refine x_cut.trans ?_
    exact (zrun_c rfl).trans (glr_X11_fair_202 _ _ _ _ _ _ _ _ _)
  · refine (t_X11_fair_195 _ _ _ _ _ _ _ _).trans ?_
    refine x_goto.trans ?_
    exact (zrun_c rfl).trans (glr_X11_fair_202 _ _ _ _ _ _ _ _ _)
theorem s_X11_fair_176 {X : zX} (hX : zHX X) {c141 : zH → Int32 → Int32 → Int32 → Int32 → Option (zH × Int32)} (h141 : ∀ σ L st r, gl_X11_fair_141 c141 σ L st = some r → zGW X 207 krI 141 σ L st r) : ∀ σ L st r, gl_X11_fair_176 (j_X11_fair_176 c141) σ L st = some r → zGW X 207 krI 176 σ L st r := by
  intro σ L st r h
  unfold gl_X11_fair_176 at h
  split at h
  · exact zin_ok (hy_X11_fair hX) bk_X11_fair (fun t f hf => by
    by_cases e202 : t = 202
    · rw [if_pos e202] at hf; subst e202; cases hf; exact (s_X11_fair_202 hX h141)
    rw [if_neg e202] at hf
    cases hf) ((e_X11_fair_176 _ _ _ _ _ _ _ _ _).symm.trans h)
  · cases h
noncomputable def k_X11_fair_141 (c210 : zH → Int32 → Int32 → Int32 → Option (zH × Int32)) : Nat → zH → Int32 → Int32 → Int32 → Int32 → Option (zH × Int32)
  | 0, _, _, _, _, _ => none
  | n + 1, σ, x3, x4, x5, x6 =>
    if x6 < (σ.1 42 0 0) then
      ix x6 12 fun j1 =>
      ix x4 12 fun j2 =>
      if (σ.1 89 0 j2) < (σ.1 89 0 j1) then
        (j_X11_fair_176 (k_X11_fair_141 c210 n)) σ x3 x5 x6 x6
      else
        (j_X11_fair_176 (k_X11_fair_141 c210 n)) σ x3 x5 x6 x4
    else
      c210 σ x3 x4 x5
theorem e_X11_fair_141 (c210 : zH → Int32 → Int32 → Int32 → Option (zH × Int32)) (n : Nat) (σ : zH) (x3 : Int32) (x4 : Int32) (x5 : Int32) (x6 : Int32) (y1 : zAV) (y2 : zAV) : k_X11_fair_141 c210 (n + 1) σ x3 x4 x5 x6 = zin cc_X11_fair (fun t => if t = 176 then some (gl_X11_fair_176 (j_X11_fair_176 (k_X11_fair_141 c210 n))) else if t = 210 then some (gl_X11_fair_210 c210) else none) 0 krI b_X11_fair 141 σ [vR 11 0, y1, y2, vI x3, vI x4, vI x5, vI x6] [] := by
  rw [k_X11_fair_141]
  refine Eq.symm ((zin_b (es := q_X11_fair_141) rfl).trans ?_)
  refine (t_X11_fair_141 _ _ _ _ _ _ _ _ _).trans ?_
  refine ((x_iald (N := 11) rfl rfl).trans (ix_l 0 (by decide +kernel))).trans ?_
  refine x_icmp.trans (pif_ge ?_ ?_)
  · exact (zrun_c rfl).trans (glr_X11_fair_210 _ _ _ _ _ _ _ _)
  · refine (t_X11_fair_152 _ _ _ _ _ _ _ _).trans ?_
    refine (x_iald (N := 12) rfl rfl).trans (pix fun _ => ?_)
    refine (t_X11_fair_159 _ _ _ _ _ _ _ _ _).trans ?_
    refine (x_iald (N := 12) rfl rfl).trans (pix fun _ => ?_)
    refine x_icmp.trans (pif_le ?_ ?_)
    · refine (zrun_b (es := q_X11_fair_174) rfl rfl).trans ?_
      refine (t_X11_fair_174 _ _ _ _ _ _ _ _).trans ?_
      refine x_cut.trans ?_
      exact (zrun_c rfl).trans (glr_X11_fair_176 _ _ _ _ _ _ _ _ _)
    · refine (t_X11_fair_169 _ _ _ _ _ _ _ _).trans ?_
      refine x_goto.trans ?_
      exact (zrun_c rfl).trans (glr_X11_fair_176 _ _ _ _ _ _ _ _ _)
theorem s_X11_fair_141 {X : zX} (hX : zHX X) {c210 : zH → Int32 → Int32 → Int32 → Option (zH × Int32)} (h210 : ∀ σ L st r, gl_X11_fair_210 c210 σ L st = some r → zGW X 207 krI 210 σ L st r) : ∀ n σ L st r, gl_X11_fair_141 (k_X11_fair_141 c210 n) σ L st = some r → zGW X 207 krI 141 σ L st r := by
  intro n
  induction n with
  | zero =>
    intro σ L st r h
    unfold gl_X11_fair_141 at h
    split at h <;> cases h
  | succ n ih =>
    intro σ L st r h
    unfold gl_X11_fair_141 at h
    split at h
    · exact zin_ok (hy_X11_fair hX) bk_X11_fair (fun t f hf => by
      by_cases e176 : t = 176
      · rw [if_pos e176] at hf; subst e176; cases hf; exact (s_X11_fair_176 hX ih)
      rw [if_neg e176] at hf
      by_cases e210 : t = 210
      · rw [if_pos e210] at hf; subst e210; cases hf; exact h210
      rw [if_neg e210] at hf
      cases hf) ((e_X11_fair_141 _ _ _ _ _ _ _ _ _).symm.trans h)
    · cases h
noncomputable def j_X11_fair_210  (σ : zH) (x3 : Int32) (x4 : Int32) (x5 : Int32) : Option (zH × Int32) :=
  if x3 = 0 then
    some (σ, x4)
  else
    if x3 = (1 : Int32) then
      some (σ, x5)
    else
      ix x4 12 fun j1 =>
      ix x5 12 fun j2 =>
      some (σ, ((σ.1 89 0 j1) - (σ.1 89 0 j2)))
theorem e_X11_fair_210  (σ : zH) (x3 : Int32) (x4 : Int32) (x5 : Int32) (y1 : zAV) (y2 : zAV) (y6 : zAV) : j_X11_fair_210 σ x3 x4 x5 = zin cc_X11_fair (fun t => none) 0 krI b_X11_fair 210 σ [vR 11 0, y1, y2, vI x3, vI x4, vI x5, y6] [] := by
  unfold j_X11_fair_210
  refine Eq.symm ((zin_b (es := q_X11_fair_210) rfl).trans ?_)
  refine (t_X11_fair_210 _ _ _ _ _ _ _ _).trans ?_
  refine x_if.trans (pif_ne ?_ ?_)
  · refine (zrun_b (es := q_X11_fair_219) rfl rfl).trans ?_
    refine (t_X11_fair_219 _ _ _ _ _ _ _ _ _).trans ?_
    refine x_icmp.trans (pif_ne ?_ ?_)
    · refine (zrun_b (es := q_X11_fair_229) rfl rfl).trans ?_
      refine (t_X11_fair_229 _ _ _ _ _ _ _ _).trans ?_
      refine (x_iald (N := 12) rfl rfl).trans (pix fun _ => ?_)
      refine (t_X11_fair_236 _ _ _ _ _ _ _ _ _).trans ?_
      refine (x_iald (N := 12) rfl rfl).trans (pix fun _ => ?_)
      refine (t_X11_fair_243 _ _ _ _ _ _ _ _ _ _ _).trans ?_
      exact x_iret
    · refine (t_X11_fair_224 _ _ _ _ _ _ _ _ _).trans ?_
      refine x_goto.trans ?_
      refine (zrun_b (es := q_X11_fair_244) rfl rfl).trans ?_
      exact x_iret
  · refine (t_X11_fair_214 _ _ _ _ _ _ _ _ _).trans ?_
    refine x_goto.trans ?_
    refine (zrun_b (es := q_X11_fair_244) rfl rfl).trans ?_
    exact x_iret
theorem s_X11_fair_210 {X : zX} (hX : zHX X)   : ∀ σ L st r, gl_X11_fair_210 j_X11_fair_210 σ L st = some r → zGW X 207 krI 210 σ L st r := by
  intro σ L st r h
  unfold gl_X11_fair_210 at h
  split at h
  · exact zin_ok (hy_X11_fair hX) bk_X11_fair (fun t f hf => by
    cases hf) ((e_X11_fair_210 _ _ _ _ _ _ _).symm.trans h)
  · cases h
noncomputable def j_X11_fair_128  (σ : zH) (x3 : Int32) : Option (zH × Int32) :=
  (d_X11_laysBack σ).bind fun σ1 =>
  (k_X11_fair_141 j_X11_fair_210 zN) σ1 x3 (0 : Int32) (0 : Int32) (1 : Int32)
theorem e_X11_fair_128  (σ : zH) (x3 : Int32) (y1 : zAV) (y2 : zAV) (y4 : zAV) (y5 : zAV) (y6 : zAV) : j_X11_fair_128 σ x3 = zin cc_X11_fair (fun t => if t = 141 then some (gl_X11_fair_141 (k_X11_fair_141 j_X11_fair_210 zN)) else none) 0 krI b_X11_fair 128 σ [vR 11 0, y1, y2, vI x3, y4, y5, y6] [] := by
  unfold j_X11_fair_128
  refine Eq.symm ((zin_b (es := q_X11_fair_128) rfl).trans ?_)
  refine (t_X11_fair_128 _ _ _ _ _ _ _ _).trans ?_
  refine (x_callV rfl rfl rfl rfl).trans ((cl_X11_fair_X11_laysBack _ _ _).trans ((gr_X11_laysBack _ _).trans (pbd fun _ => ?_)))
  refine (t_X11_fair_132 _ _ _ _ _ _ _ _ _ _ _).trans ?_
  refine x_cut.trans ?_
  exact (zrun_c rfl).trans (glr_X11_fair_141 _ _ _ _ _ _ _ _)
theorem s_X11_fair_128 {X : zX} (hX : zHX X)   : ∀ σ L st r, gl_X11_fair_128 j_X11_fair_128 σ L st = some r → zGW X 207 krI 128 σ L st r := by
  intro σ L st r h
  unfold gl_X11_fair_128 at h
  split at h
  · exact zin_ok (hy_X11_fair hX) bk_X11_fair (fun t f hf => by
    by_cases e141 : t = 141
    · rw [if_pos e141] at hf; subst e141; cases hf; exact ((fun σ L st r h => s_X11_fair_141 hX (s_X11_fair_210 hX) zN σ L st r h))
    rw [if_neg e141] at hf
    cases hf) ((e_X11_fair_128 _ _ _ _ _ _ _).symm.trans h)
  · cases h
noncomputable def j_X11_fair_67  (σ : zH) (x1 : Int32) (x2 : Int32) (x3 : Int32) : Option (zH × Int32) :=
  (d_X11_keeps σ).bind fun σ1 =>
  (k_X11_fair_74 j_X11_fair_128 zN) σ1 x1 x2 x3 (0 : Int32)
theorem e_X11_fair_67  (σ : zH) (x1 : Int32) (x2 : Int32) (x3 : Int32) (y4 : zAV) (y5 : zAV) (y6 : zAV) : j_X11_fair_67 σ x1 x2 x3 = zin cc_X11_fair (fun t => if t = 74 then some (gl_X11_fair_74 (k_X11_fair_74 j_X11_fair_128 zN)) else none) 0 krI b_X11_fair 67 σ [vR 11 0, vI x1, vI x2, vI x3, y4, y5, y6] [] := by
  unfold j_X11_fair_67
  refine Eq.symm ((zin_b (es := q_X11_fair_67) rfl).trans ?_)
  refine (t_X11_fair_67 _ _ _ _ _ _ _ _).trans ?_
  refine (x_callV rfl rfl rfl rfl).trans ((cl_X11_fair_X11_keeps _ _ _).trans ((gr_X11_keeps _ _).trans (pbd fun _ => ?_)))
  refine (t_X11_fair_71 _ _ _ _ _ _ _ _ _).trans ?_
  refine x_cut.trans ?_
  exact (zrun_c rfl).trans (glr_X11_fair_74 _ _ _ _ _ _ _ _)
theorem s_X11_fair_67 {X : zX} (hX : zHX X)   : ∀ σ L st r, gl_X11_fair_67 j_X11_fair_67 σ L st = some r → zGW X 207 krI 67 σ L st r := by
  intro σ L st r h
  unfold gl_X11_fair_67 at h
  split at h
  · exact zin_ok (hy_X11_fair hX) bk_X11_fair (fun t f hf => by
    by_cases e74 : t = 74
    · rw [if_pos e74] at hf; subst e74; cases hf; exact ((fun σ L st r h => s_X11_fair_74 hX (s_X11_fair_128 hX) zN σ L st r h))
    rw [if_neg e74] at hf
    cases hf) ((e_X11_fair_67 _ _ _ _ _ _ _).symm.trans h)
  · cases h
noncomputable def d_X11_fair (σ : zH) (xa1 : Int32) (xa2 : Int32) (xa3 : Int32) : Option (zH × Int32) :=
  (d_X11_isLaw σ xa1).bind fun p1 =>
  if p1.2 = 0 then
    some (p1.1, (-1 : Int32))
  else
    if (p1.1.1 42 0 0) = 0 then
      some (p1.1, (-1 : Int32))
    else
      (d_X11_in p1.1 xa2.toInt64 (0 : Int64) (192 : Int64)).bind fun p2 =>
      if p2.2 = 0 then
        some (p2.1, (-1 : Int32))
      else
        (d_X11_in p2.1 xa3.toInt64 (0 : Int64) (2 : Int64)).bind fun p3 =>
        if p3.2 = 0 then
          some (p3.1, (-1 : Int32))
        else
          (k_X11_fair_46 j_X11_fair_67 zN) p3.1 xa1 xa2 xa3 (0 : Int32)
theorem e_X11_fair (σ : zH) (xa1 : Int32) (xa2 : Int32) (xa3 : Int32) : d_X11_fair σ xa1 xa2 xa3 = zin cc_X11_fair (fun t => if t = 46 then some (gl_X11_fair_46 (k_X11_fair_46 j_X11_fair_67 zN)) else none) 0 krI b_X11_fair 0 σ [vR 11 0, vI xa1, vI xa2, vI xa3, vU, vU, vU] [] := by
  unfold d_X11_fair
  refine Eq.symm ((zin_b (es := q_X11_fair_0) rfl).trans ?_)
  refine (t_X11_fair_0 _ _ _ _ _ _ _ _).trans ?_
  refine (x_callV rfl rfl rfl rfl).trans ((cl_X11_fair_X11_isLaw _ _ _).trans ((gr_X11_isLaw _ _ _).trans (pbd fun _ => ?_)))
  refine x_if.trans (pif_eq ?_ ?_)
  · refine (zrun_b (es := q_X11_fair_41) rfl rfl).trans ?_
    refine (t_X11_fair_41 _ _ _ _ _ _ _ _ _ _).trans ?_
    exact x_iret
  · refine (t_X11_fair_8 _ _ _ _ _ _ _ _ _).trans ?_
    refine ((x_iald (N := 11) rfl rfl).trans (ix_l 0 (by decide +kernel))).trans ?_
    refine x_if.trans (pif_eq ?_ ?_)
    · refine (zrun_b (es := q_X11_fair_41) rfl rfl).trans ?_
      refine (t_X11_fair_41 _ _ _ _ _ _ _ _ _ _).trans ?_
      exact x_iret
    · refine (t_X11_fair_17 _ _ _ _ _ _ _ _ _ _).trans ?_
      refine (x_callS rfl rfl rfl rfl).trans ((cl_X11_fair_X11_in _ _ _).trans ((gr_X11_in _ _ _ _ _).trans (pbd fun _ => ?_)))
      refine x_if.trans (pif_eq ?_ ?_)
      · refine (zrun_b (es := q_X11_fair_41) rfl rfl).trans ?_
        refine (t_X11_fair_41 _ _ _ _ _ _ _ _ _ _).trans ?_
        exact x_iret
      · refine (t_X11_fair_29 _ _ _ _ _ _ _ _ _ _).trans ?_
        refine (x_callS rfl rfl rfl rfl).trans ((cl_X11_fair_X11_in _ _ _).trans ((gr_X11_in _ _ _ _ _).trans (pbd fun _ => ?_)))
        refine x_if.trans (pif_ne ?_ ?_)
        · refine (zrun_b (es := q_X11_fair_43) rfl rfl).trans ?_
          refine (t_X11_fair_43 _ _ _ _ _ _ _ _ _).trans ?_
          refine x_cut.trans ?_
          exact (zrun_c rfl).trans (glr_X11_fair_46 _ _ _ _ _ _ _ _)
        · refine (t_X11_fair_41 _ _ _ _ _ _ _ _ _ _).trans ?_
          exact x_iret
noncomputable def g_X11_fair {ρ : Type} (σ : zH) (av : List zAV) (q : zH → zAV → Option ρ) : Option ρ := match av with
  | [.inr (.inr (.inl (11, 0))), .inl xa1, .inl xa2, .inl xa3] => (d_X11_fair σ xa1 xa2 xa3).bind fun p => q p.1 (vI p.2)
  | _ => none
theorem gr_X11_fair {ρ : Type} (σ : zH) (xa1 : Int32) (xa2 : Int32) (xa3 : Int32) (q : zH → zAV → Option ρ) : g_X11_fair σ [vR 11 0, vI xa1, vI xa2, vI xa3] q = (d_X11_fair σ xa1 xa2 xa3).bind fun p => q p.1 (vI p.2) := rfl
theorem c_X11_fair {ρ : Type} {X : zX} (hX : zHX X) {σ : zH} {av : List zAV} {q : zH → zAV → Option ρ} {r : ρ} (h : g_X11_fair σ av q = some r) (hv : ∀ a ∈ av, zval X a) : zcon X 207 σ av q r := by
  unfold g_X11_fair at h
  split at h
  · exact zcon_I (n := 207) (ml := 7) (rc := 0) (st := 0) (kd := 11) (np := 3) (by decide +kernel) (by decide) ⟨_, _, rfl, rfl⟩ (Nat.le_of_ble_eq_true rfl) hv h (fun y h1 => (zin_ok (hy_X11_fair hX) bk_X11_fair (fun t f hf => by
      by_cases e46 : t = 46
      · rw [if_pos e46] at hf; subst e46; cases hf; exact ((fun σ L st r h => s_X11_fair_46 hX (s_X11_fair_67 hX) zN σ L st r h))
      rw [if_neg e46] at hf
      cases hf) ((e_X11_fair _ _ _ _).symm.trans h1)))
  · cases h
/-! SleepWavesModel.bestLaw(I)I -/
def q_X11_bestLaw_13 : List zEnt := zE 13 .ireturn 1 :: []
def q_X11_bestLaw_12 : List zEnt := zEk 12 (.iconst (-1)) 1 (-1) :: q_X11_bestLaw_13
def q_X11_bestLaw_9 : List zEnt := zEa 9 (.ifCond .ne 5) 3 14 :: q_X11_bestLaw_12
def q_X11_bestLaw_6 : List zEnt := zEc 6 (.invokestatic 173) 3 125 3 129 0 :: q_X11_bestLaw_9
def q_X11_bestLaw_0 : List zEnt := zE 0 (.iload_n 1) 1 :: zE 1 .i2l 1 :: (2, (.lconst 0), 1, (0, 0, 0, 0), (0, 0, 0), 0, 0, []) :: (3, (.ldc2_w 440), 3, (0, 0, 1603, 0), (0, 0, 0), 0, 192, []) :: q_X11_bestLaw_6
def q_X11_bestLaw_14 : List zEnt := zEk 14 (.bipush (-2)) 2 (-2) :: zE 16 (.istore_n 2) 1 :: zEk 17 (.iconst 0) 1 0 :: zE 18 (.istore_n 3) 1 :: zEk 19 (.iconst 0) 1 0 :: zE 20 (.istore 4) 2 :: zEk 22 (.iconst 0) 1 0 :: zE 23 (.istore 5) 2 :: [zE 25 .nop 0]
def q_X11_bestLaw_78 : List zEnt := zEa 78 (.if_icmp .ge 13) 3 91 :: [zE 81 .nop 0]
def q_X11_bestLaw_74 : List zEnt := zE 74 (.iload 7) 2 :: zE 76 (.iload 4) 2 :: q_X11_bestLaw_78
def q_X11_bestLaw_71 : List zEnt := zEa 71 (.if_icmp .ne 20) 3 91 :: q_X11_bestLaw_74
def q_X11_bestLaw_68 : List zEnt := zE 68 (.iload 6) 2 :: zE 70 (.iload_n 3) 1 :: q_X11_bestLaw_71
def q_X11_bestLaw_65 : List zEnt := zEa 65 (.if_icmp .lt 16) 3 81 :: q_X11_bestLaw_68
def q_X11_bestLaw_62 : List zEnt := zE 62 (.iload 6) 2 :: zE 64 (.iload_n 3) 1 :: q_X11_bestLaw_65
def q_X11_bestLaw_59 : List zEnt := zEa 59 (.if_icmp .eq 22) 3 81 :: q_X11_bestLaw_62
def q_X11_bestLaw_54 : List zEnt := zE 54 (.istore 7) 2 :: zE 56 (.iload_n 2) 1 :: zEk 57 (.bipush (-2)) 2 (-2) :: q_X11_bestLaw_59
def q_X11_bestLaw_51 : List zEnt := zEc 51 (.invokevirtual 444) 3 189 5 168 0 :: q_X11_bestLaw_54
def q_X11_bestLaw_43 : List zEnt := zE 43 (.istore 6) 2 :: zE 45 (.aload_n 0) 1 :: zE 46 (.iload 5) 2 :: zEk 48 (.iconst (-1)) 1 (-1) :: zE 49 (.iload_n 1) 1 :: zEk 50 (.iconst 3) 1 3 :: q_X11_bestLaw_51
def q_X11_bestLaw_40 : List zEnt := zEc 40 (.invokevirtual 444) 3 189 5 168 0 :: q_X11_bestLaw_43
def q_X11_bestLaw_34 : List zEnt := zE 34 (.aload_n 0) 1 :: zE 35 (.iload 5) 2 :: zEk 37 (.iconst (-1)) 1 (-1) :: zE 38 (.iload_n 1) 1 :: zEk 39 (.iconst 1) 1 1 :: q_X11_bestLaw_40
def q_X11_bestLaw_31 : List zEnt := zEa 31 (.if_icmp .ge 66) 3 97 :: q_X11_bestLaw_34
def q_X11_bestLaw_25 : List zEnt := zE 25 (.iload 5) 2 :: zE 27 (.aload_n 0) 1 :: zEf 28 (.getfield 342) 3 11 34 182 (0, 0, 0) :: q_X11_bestLaw_31
def q_X11_bestLaw_94 : List zEnt := zEa 94 (.goto (-69)) 3 25 :: []
def q_X11_bestLaw_91 : List zEnt := zEk 91 (.iinc 5 1) 3 1 :: q_X11_bestLaw_94
def q_X11_bestLaw_81 : List zEnt := zE 81 (.iload 5) 2 :: zE 83 (.istore_n 2) 1 :: zE 84 (.iload 6) 2 :: zE 86 (.istore_n 3) 1 :: zE 87 (.iload 7) 2 :: zE 89 (.istore 4) 2 :: q_X11_bestLaw_91
def q_X11_bestLaw_98 : List zEnt := zE 98 .ireturn 1 :: []
def q_X11_bestLaw_97 : List zEnt := zE 97 (.iload_n 2) 1 :: q_X11_bestLaw_98
def b_X11_bestLaw : List (Nat × List zEnt) := [(0, q_X11_bestLaw_0), (14, q_X11_bestLaw_14), (25, q_X11_bestLaw_25), (81, q_X11_bestLaw_81), (91, q_X11_bestLaw_91), (97, q_X11_bestLaw_97)]
theorem bk_X11_bestLaw : zchB 208 b_X11_bestLaw = true := by decide +kernel
noncomputable def cc_X11_bestLaw {ρ : Type} : Nat → zH → List zAV → (zH → zAV → Option ρ) → Option ρ := fun n σ av q => if n = 125 then g_X11_in σ av q else if n = 189 then g_X11_tries σ av q else none
theorem cs_X11_bestLaw {ρ : Type} {X : zX} (hX : zHX X) : zCS X (cc_X11_bestLaw (ρ := ρ)) := by
  intro n σ av q r h hv
  unfold cc_X11_bestLaw at h
  by_cases e_X11_in : n = 125
  · rw [if_pos e_X11_in] at h
    subst e_X11_in
    exact c_X11_in hX h hv
  rw [if_neg e_X11_in] at h
  by_cases e_X11_tries : n = 189
  · rw [if_pos e_X11_tries] at h
    subst e_X11_tries
    exact c_X11_tries hX h hv
  rw [if_neg e_X11_tries] at h
  cases h
theorem cl_X11_bestLaw_X11_in {ρ : Type} (σ : zH) (av : List zAV) (q : zH → zAV → Option ρ) : cc_X11_bestLaw 125 σ av q = g_X11_in σ av q := rfl
theorem cl_X11_bestLaw_X11_tries {ρ : Type} (σ : zH) (av : List zAV) (q : zH → zAV → Option ρ) : cc_X11_bestLaw 189 σ av q = g_X11_tries σ av q := rfl
theorem hy_X11_bestLaw {ρ : Type} {X : zX} (hX : zHX X) : zHY X 208 (cc_X11_bestLaw (ρ := ρ)) := zHX.hY hX (cs_X11_bestLaw hX) (zmok_all 208 (by decide))
def gl_X11_bestLaw_25 {ρ : Type} (f : zH → Int32 → Int32 → Int32 → Int32 → Int32 → Option ρ) (σ : zH) (L st : List zAV) : Option ρ := match L, st with
  | [.inr (.inr (.inl (11, 0))), .inl x1, .inl x2, .inl x3, .inl x4, .inl x5, _, _], [] => f σ x1 x2 x3 x4 x5
  | _, _ => none
def gl_X11_bestLaw_81 {ρ : Type} (f : zH → Int32 → Int32 → Int32 → Int32 → Option ρ) (σ : zH) (L st : List zAV) : Option ρ := match L, st with
  | [.inr (.inr (.inl (11, 0))), .inl x1, _, _, _, .inl x5, .inl x6, .inl x7], [] => f σ x1 x5 x6 x7
  | _, _ => none
theorem glr_X11_bestLaw_25 {ρ : Type} (f : zH → Int32 → Int32 → Int32 → Int32 → Int32 → Option ρ) (σ : zH) (x1 : Int32) (x2 : Int32) (x3 : Int32) (x4 : Int32) (x5 : Int32) (y6 : zAV) (y7 : zAV) : gl_X11_bestLaw_25 f σ [vR 11 0, vI x1, vI x2, vI x3, vI x4, vI x5, y6, y7] [] = f σ x1 x2 x3 x4 x5 := rfl
theorem glr_X11_bestLaw_81 {ρ : Type} (f : zH → Int32 → Int32 → Int32 → Int32 → Option ρ) (σ : zH) (x1 : Int32) (x5 : Int32) (x6 : Int32) (x7 : Int32) (y2 : zAV) (y3 : zAV) (y4 : zAV) : gl_X11_bestLaw_81 f σ [vR 11 0, vI x1, y2, y3, y4, vI x5, vI x6, vI x7] [] = f σ x1 x5 x6 x7 := rfl
theorem t_X11_bestLaw_0 {G : Nat → zH → List zAV → List zAV → Option (zH × Int32)} (es : List zEnt) (σ : zH) (x1 : Int32) (y2 : zAV) (y3 : zAV) (y4 : zAV) (y5 : zAV) (y6 : zAV) (y7 : zAV) (w2 : Int64) (w3 : Int64) : zev cc_X11_bestLaw G 0 krI (zE 0 (.iload_n 1) 1 :: zE 1 .i2l 1 :: (2, (.lconst 0), 1, (0, 0, 0, 0), (0, 0, 0), 0, w2, []) :: (3, (.ldc2_w 440), 3, (0, 0, 1603, 0), (0, 0, 0), 0, w3, []) :: es) σ [vR 11 0, vI x1, y2, y3, y4, y5, y6, y7] [] = zev cc_X11_bestLaw G 0 krI es σ [vR 11 0, vI x1, y2, y3, y4, y5, y6, y7] [vL w3, vL w2, vL x1.toInt64] := rfl
theorem t_X11_bestLaw_12 {G : Nat → zH → List zAV → List zAV → Option (zH × Int32)} (es : List zEnt) (σ : zH)  (y0 : zAV) (y1 : zAV) (y2 : zAV) (y3 : zAV) (y4 : zAV) (y5 : zAV) (y6 : zAV) (y7 : zAV) (w12 : Int32) : zev cc_X11_bestLaw G 0 krI (zEk 12 (.iconst (-1)) 1 w12 :: es) σ [y0, y1, y2, y3, y4, y5, y6, y7] [] = zev cc_X11_bestLaw G 0 krI es σ [y0, y1, y2, y3, y4, y5, y6, y7] [vI w12] := rfl
theorem t_X11_bestLaw_14 {G : Nat → zH → List zAV → List zAV → Option (zH × Int32)} (es : List zEnt) (σ : zH) (x1 : Int32) (y2 : zAV) (y3 : zAV) (y4 : zAV) (y5 : zAV) (y6 : zAV) (y7 : zAV) (w14 : Int32) (w17 : Int32) (w19 : Int32) (w22 : Int32) : zev cc_X11_bestLaw G 0 krI (zEk 14 (.bipush (-2)) 2 w14 :: zE 16 (.istore_n 2) 1 :: zEk 17 (.iconst 0) 1 w17 :: zE 18 (.istore_n 3) 1 :: zEk 19 (.iconst 0) 1 w19 :: zE 20 (.istore 4) 2 :: zEk 22 (.iconst 0) 1 w22 :: zE 23 (.istore 5) 2 :: es) σ [vR 11 0, vI x1, y2, y3, y4, y5, y6, y7] [] = zev cc_X11_bestLaw G 0 krI es σ [vR 11 0, vI x1, vI w14, vI w17, vI w19, vI w22, y6, y7] [] := rfl
theorem t_X11_bestLaw_25 {G : Nat → zH → List zAV → List zAV → Option (zH × Int32)} (es : List zEnt) (σ : zH) (x1 : Int32) (x2 : Int32) (x3 : Int32) (x4 : Int32) (x5 : Int32) (y6 : zAV) (y7 : zAV)  : zev cc_X11_bestLaw G 0 krI (zE 25 (.iload 5) 2 :: zE 27 (.aload_n 0) 1 :: zEf 28 (.getfield 342) 3 11 34 182 (0, 0, 0) :: es) σ [vR 11 0, vI x1, vI x2, vI x3, vI x4, vI x5, y6, y7] [] = zev cc_X11_bestLaw G 0 krI es σ [vR 11 0, vI x1, vI x2, vI x3, vI x4, vI x5, y6, y7] [vI (σ.1 11 0 34), vI x5] := rfl
theorem t_X11_bestLaw_34 {G : Nat → zH → List zAV → List zAV → Option (zH × Int32)} (es : List zEnt) (σ : zH) (x1 : Int32) (x2 : Int32) (x3 : Int32) (x4 : Int32) (x5 : Int32) (y6 : zAV) (y7 : zAV) (w37 : Int32) (w39 : Int32) : zev cc_X11_bestLaw G 0 krI (zE 34 (.aload_n 0) 1 :: zE 35 (.iload 5) 2 :: zEk 37 (.iconst (-1)) 1 w37 :: zE 38 (.iload_n 1) 1 :: zEk 39 (.iconst 1) 1 w39 :: es) σ [vR 11 0, vI x1, vI x2, vI x3, vI x4, vI x5, y6, y7] [] = zev cc_X11_bestLaw G 0 krI es σ [vR 11 0, vI x1, vI x2, vI x3, vI x4, vI x5, y6, y7] [vI w39, vI x1, vI w37, vI x5, vR 11 0] := rfl
theorem t_X11_bestLaw_43 {G : Nat → zH → List zAV → List zAV → Option (zH × Int32)} (es : List zEnt) (σ : zH) (x1 : Int32) (x2 : Int32) (x3 : Int32) (x4 : Int32) (x5 : Int32) (xs0 : Int32) (y6 : zAV) (y7 : zAV) (w48 : Int32) (w50 : Int32) : zev cc_X11_bestLaw G 0 krI (zE 43 (.istore 6) 2 :: zE 45 (.aload_n 0) 1 :: zE 46 (.iload 5) 2 :: zEk 48 (.iconst (-1)) 1 w48 :: zE 49 (.iload_n 1) 1 :: zEk 50 (.iconst 3) 1 w50 :: es) σ [vR 11 0, vI x1, vI x2, vI x3, vI x4, vI x5, y6, y7] [vI xs0] = zev cc_X11_bestLaw G 0 krI es σ [vR 11 0, vI x1, vI x2, vI x3, vI x4, vI x5, vI xs0, y7] [vI w50, vI x1, vI w48, vI x5, vR 11 0] := rfl
theorem t_X11_bestLaw_54 {G : Nat → zH → List zAV → List zAV → Option (zH × Int32)} (es : List zEnt) (σ : zH) (x1 : Int32) (x2 : Int32) (x3 : Int32) (x4 : Int32) (x5 : Int32) (x6 : Int32) (xs0 : Int32) (y7 : zAV) (w57 : Int32) : zev cc_X11_bestLaw G 0 krI (zE 54 (.istore 7) 2 :: zE 56 (.iload_n 2) 1 :: zEk 57 (.bipush (-2)) 2 w57 :: es) σ [vR 11 0, vI x1, vI x2, vI x3, vI x4, vI x5, vI x6, y7] [vI xs0] = zev cc_X11_bestLaw G 0 krI es σ [vR 11 0, vI x1, vI x2, vI x3, vI x4, vI x5, vI x6, vI xs0] [vI w57, vI x2] := rfl
theorem t_X11_bestLaw_62 {G : Nat → zH → List zAV → List zAV → Option (zH × Int32)} (es : List zEnt) (σ : zH) (x1 : Int32) (x2 : Int32) (x3 : Int32) (x4 : Int32) (x5 : Int32) (x6 : Int32) (x7 : Int32)   : zev cc_X11_bestLaw G 0 krI (zE 62 (.iload 6) 2 :: zE 64 (.iload_n 3) 1 :: es) σ [vR 11 0, vI x1, vI x2, vI x3, vI x4, vI x5, vI x6, vI x7] [] = zev cc_X11_bestLaw G 0 krI es σ [vR 11 0, vI x1, vI x2, vI x3, vI x4, vI x5, vI x6, vI x7] [vI x3, vI x6] := rfl
theorem t_X11_bestLaw_68 {G : Nat → zH → List zAV → List zAV → Option (zH × Int32)} (es : List zEnt) (σ : zH) (x1 : Int32) (x2 : Int32) (x3 : Int32) (x4 : Int32) (x5 : Int32) (x6 : Int32) (x7 : Int32)   : zev cc_X11_bestLaw G 0 krI (zE 68 (.iload 6) 2 :: zE 70 (.iload_n 3) 1 :: es) σ [vR 11 0, vI x1, vI x2, vI x3, vI x4, vI x5, vI x6, vI x7] [] = zev cc_X11_bestLaw G 0 krI es σ [vR 11 0, vI x1, vI x2, vI x3, vI x4, vI x5, vI x6, vI x7] [vI x3, vI x6] := rfl
theorem t_X11_bestLaw_74 {G : Nat → zH → List zAV → List zAV → Option (zH × Int32)} (es : List zEnt) (σ : zH) (x1 : Int32) (x2 : Int32) (x3 : Int32) (x4 : Int32) (x5 : Int32) (x6 : Int32) (x7 : Int32)   : zev cc_X11_bestLaw G 0 krI (zE 74 (.iload 7) 2 :: zE 76 (.iload 4) 2 :: es) σ [vR 11 0, vI x1, vI x2, vI x3, vI x4, vI x5, vI x6, vI x7] [] = zev cc_X11_bestLaw G 0 krI es σ [vR 11 0, vI x1, vI x2, vI x3, vI x4, vI x5, vI x6, vI x7] [vI x4, vI x7] := rfl
theorem t_X11_bestLaw_81 {G : Nat → zH → List zAV → List zAV → Option (zH × Int32)} (es : List zEnt) (σ : zH) (x1 : Int32) (x5 : Int32) (x6 : Int32) (x7 : Int32) (y2 : zAV) (y3 : zAV) (y4 : zAV) (w91 : Int32) : zev cc_X11_bestLaw G 0 krI (zE 81 (.iload 5) 2 :: zE 83 (.istore_n 2) 1 :: zE 84 (.iload 6) 2 :: zE 86 (.istore_n 3) 1 :: zE 87 (.iload 7) 2 :: zE 89 (.istore 4) 2 :: zEk 91 (.iinc 5 1) 3 w91 :: es) σ [vR 11 0, vI x1, y2, y3, y4, vI x5, vI x6, vI x7] [] = zev cc_X11_bestLaw G 0 krI es σ [vR 11 0, vI x1, vI x5, vI x6, vI x7, vI (x5 + w91), vI x6, vI x7] [] := rfl
theorem t_X11_bestLaw_91 {G : Nat → zH → List zAV → List zAV → Option (zH × Int32)} (es : List zEnt) (σ : zH) (x1 : Int32) (x2 : Int32) (x3 : Int32) (x4 : Int32) (x5 : Int32) (y6 : zAV) (y7 : zAV) (w91 : Int32) : zev cc_X11_bestLaw G 0 krI (zEk 91 (.iinc 5 1) 3 w91 :: es) σ [vR 11 0, vI x1, vI x2, vI x3, vI x4, vI x5, y6, y7] [] = zev cc_X11_bestLaw G 0 krI es σ [vR 11 0, vI x1, vI x2, vI x3, vI x4, vI (x5 + w91), y6, y7] [] := rfl
theorem t_X11_bestLaw_97 {G : Nat → zH → List zAV → List zAV → Option (zH × Int32)} (es : List zEnt) (σ : zH) (x2 : Int32) (y0 : zAV) (y1 : zAV) (y3 : zAV) (y4 : zAV) (y5 : zAV) (y6 : zAV) (y7 : zAV)  : zev cc_X11_bestLaw G 0 krI (zE 97 (.iload_n 2) 1 :: es) σ [y0, y1, vI x2, y3, y4, y5, y6, y7] [] = zev cc_X11_bestLaw G 0 krI es σ [y0, y1, vI x2, y3, y4, y5, y6, y7] [vI x2] := rfl
noncomputable def j_X11_bestLaw_81 (c25 : zH → Int32 → Int32 → Int32 → Int32 → Int32 → Option (zH × Int32)) (σ : zH) (x1 : Int32) (x5 : Int32) (x6 : Int32) (x7 : Int32) : Option (zH × Int32) :=
  c25 σ x1 x5 x6 x7 (x5 + (1 : Int32))
theorem e_X11_bestLaw_81 (c25 : zH → Int32 → Int32 → Int32 → Int32 → Int32 → Option (zH × Int32)) (σ : zH) (x1 : Int32) (x5 : Int32) (x6 : Int32) (x7 : Int32) (y2 : zAV) (y3 : zAV) (y4 : zAV) : j_X11_bestLaw_81 c25 σ x1 x5 x6 x7 = zin cc_X11_bestLaw (fun t => if t = 25 then some (gl_X11_bestLaw_25 c25) else none) 0 krI b_X11_bestLaw 81 σ [vR 11 0, vI x1, y2, y3, y4, vI x5, vI x6, vI x7] [] := by
  unfold j_X11_bestLaw_81
  refine Eq.symm ((zin_b (es := q_X11_bestLaw_81) rfl).trans ?_)
  refine (t_X11_bestLaw_81 _ _ _ _ _ _ _ _ _ _).trans ?_
  refine x_goto.trans ?_
  exact (zrun_c rfl).trans (glr_X11_bestLaw_25 _ _ _ _ _ _ _ _ _)
theorem s_X11_bestLaw_81 {X : zX} (hX : zHX X) {c25 : zH → Int32 → Int32 → Int32 → Int32 → Int32 → Option (zH × Int32)} (h25 : ∀ σ L st r, gl_X11_bestLaw_25 c25 σ L st = some r → zGW X 208 krI 25 σ L st r) : ∀ σ L st r, gl_X11_bestLaw_81 (j_X11_bestLaw_81 c25) σ L st = some r → zGW X 208 krI 81 σ L st r := by
  intro σ L st r h
  unfold gl_X11_bestLaw_81 at h
  split at h
  · exact zin_ok (hy_X11_bestLaw hX) bk_X11_bestLaw (fun t f hf => by
    by_cases e25 : t = 25
    · rw [if_pos e25] at hf; subst e25; cases hf; exact h25
    rw [if_neg e25] at hf
    cases hf) ((e_X11_bestLaw_81 _ _ _ _ _ _ _ _ _).symm.trans h)
  · cases h
noncomputable def k_X11_bestLaw_25  : Nat → zH → Int32 → Int32 → Int32 → Int32 → Int32 → Option (zH × Int32)
  | 0, _, _, _, _, _, _ => none
  | n + 1, σ, x1, x2, x3, x4, x5 =>
    if x5 < (σ.1 11 0 34) then
      (d_X11_tries σ x5 (-1 : Int32) x1 (1 : Int32)).bind fun p1 =>
      (d_X11_tries p1.1 x5 (-1 : Int32) x1 (3 : Int32)).bind fun p2 =>
      if x2 = (-2 : Int32) then
        (j_X11_bestLaw_81 (k_X11_bestLaw_25 n)) p2.1 x1 x5 p1.2 p2.2
      else
        if p1.2 < x3 then
          (j_X11_bestLaw_81 (k_X11_bestLaw_25 n)) p2.1 x1 x5 p1.2 p2.2
        else
          if p1.2 = x3 then
            if p2.2 < x4 then
              (j_X11_bestLaw_81 (k_X11_bestLaw_25 n)) p2.1 x1 x5 p1.2 p2.2
            else
              (k_X11_bestLaw_25 n) p2.1 x1 x2 x3 x4 (x5 + (1 : Int32))
          else
            (k_X11_bestLaw_25 n) p2.1 x1 x2 x3 x4 (x5 + (1 : Int32))
    else
      some (σ, x2)
theorem e_X11_bestLaw_25  (n : Nat) (σ : zH) (x1 : Int32) (x2 : Int32) (x3 : Int32) (x4 : Int32) (x5 : Int32) (y6 : zAV) (y7 : zAV) : k_X11_bestLaw_25 (n + 1) σ x1 x2 x3 x4 x5 = zin cc_X11_bestLaw (fun t => if t = 25 then some (gl_X11_bestLaw_25 (k_X11_bestLaw_25 n)) else if t = 81 then some (gl_X11_bestLaw_81 (j_X11_bestLaw_81 (k_X11_bestLaw_25 n))) else none) 0 krI b_X11_bestLaw 25 σ [vR 11 0, vI x1, vI x2, vI x3, vI x4, vI x5, y6, y7] [] := by
  rw [k_X11_bestLaw_25]
  refine Eq.symm ((zin_b (es := q_X11_bestLaw_25) rfl).trans ?_)
  refine (t_X11_bestLaw_25 _ _ _ _ _ _ _ _ _).trans ?_
  refine x_icmp.trans (pif_ge ?_ ?_)
  · refine (zrun_b (es := q_X11_bestLaw_97) rfl rfl).trans ?_
    refine (t_X11_bestLaw_97 _ _ _ _ _ _ _ _ _ _).trans ?_
    exact x_iret
  · refine (t_X11_bestLaw_34 _ _ _ _ _ _ _ _ _ _ _).trans ?_
    refine (x_callV rfl rfl rfl rfl).trans ((cl_X11_bestLaw_X11_tries _ _ _).trans ((gr_X11_tries _ _ _ _ _ _).trans (pbd fun _ => ?_)))
    refine (t_X11_bestLaw_43 _ _ _ _ _ _ _ _ _ _ _ _).trans ?_
    refine (x_callV rfl rfl rfl rfl).trans ((cl_X11_bestLaw_X11_tries _ _ _).trans ((gr_X11_tries _ _ _ _ _ _).trans (pbd fun _ => ?_)))
    refine (t_X11_bestLaw_54 _ _ _ _ _ _ _ _ _ _ _).trans ?_
    refine x_icmp.trans (pif_eq ?_ ?_)
    · exact (zrun_c rfl).trans (glr_X11_bestLaw_81 _ _ _ _ _ _ _ _ _)
    · refine (t_X11_bestLaw_62 _ _ _ _ _ _ _ _ _).trans ?_
      refine x_icmp.trans (pif_lt ?_ ?_)
      · exact (zrun_c rfl).trans (glr_X11_bestLaw_81 _ _ _ _ _ _ _ _ _)
      · refine (t_X11_bestLaw_68 _ _ _ _ _ _ _ _ _).trans ?_
        refine x_icmp.trans (pif_ne ?_ ?_)
        · refine (zrun_b (es := q_X11_bestLaw_91) rfl rfl).trans ?_
          refine (t_X11_bestLaw_91 _ _ _ _ _ _ _ _ _ _).trans ?_
          refine x_goto.trans ?_
          exact (zrun_c rfl).trans (glr_X11_bestLaw_25 _ _ _ _ _ _ _ _ _)
        · refine (t_X11_bestLaw_74 _ _ _ _ _ _ _ _ _).trans ?_
          refine x_icmp.trans (pif_ge ?_ ?_)
          · refine (zrun_b (es := q_X11_bestLaw_91) rfl rfl).trans ?_
            refine (t_X11_bestLaw_91 _ _ _ _ _ _ _ _ _ _).trans ?_
            refine x_goto.trans ?_
            exact (zrun_c rfl).trans (glr_X11_bestLaw_25 _ _ _ _ _ _ _ _ _)
          · refine x_cut.trans ?_
            exact (zrun_c rfl).trans (glr_X11_bestLaw_81 _ _ _ _ _ _ _ _ _)
theorem s_X11_bestLaw_25 {X : zX} (hX : zHX X)   : ∀ n σ L st r, gl_X11_bestLaw_25 (k_X11_bestLaw_25 n) σ L st = some r → zGW X 208 krI 25 σ L st r := by
  intro n
  induction n with
  | zero =>
    intro σ L st r h
    unfold gl_X11_bestLaw_25 at h
    split at h <;> cases h
  | succ n ih =>
    intro σ L st r h
    unfold gl_X11_bestLaw_25 at h
    split at h
    · exact zin_ok (hy_X11_bestLaw hX) bk_X11_bestLaw (fun t f hf => by
      by_cases e25 : t = 25
      · rw [if_pos e25] at hf; subst e25; cases hf; exact ih
      rw [if_neg e25] at hf
      by_cases e81 : t = 81
      · rw [if_pos e81] at hf; subst e81; cases hf; exact (s_X11_bestLaw_81 hX ih)
      rw [if_neg e81] at hf
      cases hf) ((e_X11_bestLaw_25 _ _ _ _ _ _ _ _ _).symm.trans h)
    · cases h
noncomputable def d_X11_bestLaw (σ : zH) (xa1 : Int32) : Option (zH × Int32) :=
  (d_X11_in σ xa1.toInt64 (0 : Int64) (192 : Int64)).bind fun p1 =>
  if p1.2 = 0 then
    some (p1.1, (-1 : Int32))
  else
    (k_X11_bestLaw_25 zN) p1.1 xa1 (-2 : Int32) (0 : Int32) (0 : Int32) (0 : Int32)
theorem e_X11_bestLaw (σ : zH) (xa1 : Int32) : d_X11_bestLaw σ xa1 = zin cc_X11_bestLaw (fun t => if t = 25 then some (gl_X11_bestLaw_25 (k_X11_bestLaw_25 zN)) else none) 0 krI b_X11_bestLaw 0 σ [vR 11 0, vI xa1, vU, vU, vU, vU, vU, vU] [] := by
  unfold d_X11_bestLaw
  refine Eq.symm ((zin_b (es := q_X11_bestLaw_0) rfl).trans ?_)
  refine (t_X11_bestLaw_0 _ _ _ _ _ _ _ _ _ _ _).trans ?_
  refine (x_callS rfl rfl rfl rfl).trans ((cl_X11_bestLaw_X11_in _ _ _).trans ((gr_X11_in _ _ _ _ _).trans (pbd fun _ => ?_)))
  refine x_if.trans (pif_ne ?_ ?_)
  · refine (zrun_b (es := q_X11_bestLaw_14) rfl rfl).trans ?_
    refine (t_X11_bestLaw_14 _ _ _ _ _ _ _ _ _ _ _ _ _).trans ?_
    refine x_cut.trans ?_
    exact (zrun_c rfl).trans (glr_X11_bestLaw_25 _ _ _ _ _ _ _ _ _)
  · refine (t_X11_bestLaw_12 _ _ _ _ _ _ _ _ _ _ _).trans ?_
    exact x_iret
noncomputable def g_X11_bestLaw {ρ : Type} (σ : zH) (av : List zAV) (q : zH → zAV → Option ρ) : Option ρ := match av with
  | [.inr (.inr (.inl (11, 0))), .inl xa1] => (d_X11_bestLaw σ xa1).bind fun p => q p.1 (vI p.2)
  | _ => none
theorem gr_X11_bestLaw {ρ : Type} (σ : zH) (xa1 : Int32) (q : zH → zAV → Option ρ) : g_X11_bestLaw σ [vR 11 0, vI xa1] q = (d_X11_bestLaw σ xa1).bind fun p => q p.1 (vI p.2) := rfl
theorem c_X11_bestLaw {ρ : Type} {X : zX} (hX : zHX X) {σ : zH} {av : List zAV} {q : zH → zAV → Option ρ} {r : ρ} (h : g_X11_bestLaw σ av q = some r) (hv : ∀ a ∈ av, zval X a) : zcon X 208 σ av q r := by
  unfold g_X11_bestLaw at h
  split at h
  · exact zcon_I (n := 208) (ml := 8) (rc := 0) (st := 0) (kd := 11) (np := 1) (by decide +kernel) (by decide) ⟨_, _, rfl, rfl⟩ (Nat.le_of_ble_eq_true rfl) hv h (fun y h1 => (zin_ok (hy_X11_bestLaw hX) bk_X11_bestLaw (fun t f hf => by
      by_cases e25 : t = 25
      · rw [if_pos e25] at hf; subst e25; cases hf; exact ((fun σ L st r h => s_X11_bestLaw_25 hX  zN σ L st r h))
      rw [if_neg e25] at hf
      cases hf) ((e_X11_bestLaw _ _).symm.trans h1)))
  · cases h
/-! SleepWavesModel.swaps(II)V -/
def q_X11_swaps_26 : List zEnt := zE 26 .return_ 1 :: []
def q_X11_swaps_25 : List zEnt := zE 25 .iastore 1 :: q_X11_swaps_26
def q_X11_swaps_19 : List zEnt := zE 19 (.aload_n 0) 1 :: zEf 20 (.getfield 19) 3 11 4 152 (2, 45, 0) :: zE 23 (.iload_n 2) 1 :: zE 24 (.iload_n 3) 1 :: q_X11_swaps_25
def q_X11_swaps_18 : List zEnt := zE 18 .iastore 1 :: q_X11_swaps_19
def q_X11_swaps_17 : List zEnt := zE 17 .iaload 1 :: q_X11_swaps_18
def q_X11_swaps_6 : List zEnt := zE 6 (.istore_n 3) 1 :: zE 7 (.aload_n 0) 1 :: zEf 8 (.getfield 19) 3 11 4 152 (2, 45, 0) :: zE 11 (.iload_n 1) 1 :: zE 12 (.aload_n 0) 1 :: zEf 13 (.getfield 19) 3 11 4 152 (2, 45, 0) :: zE 16 (.iload_n 2) 1 :: q_X11_swaps_17
def q_X11_swaps_5 : List zEnt := zE 5 .iaload 1 :: q_X11_swaps_6
def q_X11_swaps_0 : List zEnt := zE 0 (.aload_n 0) 1 :: zEf 1 (.getfield 19) 3 11 4 152 (2, 45, 0) :: zE 4 (.iload_n 1) 1 :: q_X11_swaps_5
def b_X11_swaps : List (Nat × List zEnt) := [(0, q_X11_swaps_0)]
theorem bk_X11_swaps : zchB 209 b_X11_swaps = true := by decide +kernel
theorem hy_X11_swaps {ρ : Type} {X : zX} (hX : zHX X) : zHY X 209 (zc0 (ρ := ρ)) := zHX.hY hX (zc0_ok X) (zmok_all 209 (by decide))
theorem t_X11_swaps_0 {G : Nat → zH → List zAV → List zAV → Option zH} (es : List zEnt) (σ : zH) (x1 : Int32) (x2 : Int32) (y3 : zAV)  : zev zc0 G 9 krV (zE 0 (.aload_n 0) 1 :: zEf 1 (.getfield 19) 3 11 4 152 (2, 45, 0) :: zE 4 (.iload_n 1) 1 :: es) σ [vR 11 0, vI x1, vI x2, y3] [] = zev zc0 G 9 krV es σ [vR 11 0, vI x1, vI x2, y3] [vI x1, vR 45 0] := rfl
theorem t_X11_swaps_6 {G : Nat → zH → List zAV → List zAV → Option zH} (es : List zEnt) (σ : zH) (x1 : Int32) (x2 : Int32) (xs0 : Int32) (y3 : zAV)  : zev zc0 G 9 krV (zE 6 (.istore_n 3) 1 :: zE 7 (.aload_n 0) 1 :: zEf 8 (.getfield 19) 3 11 4 152 (2, 45, 0) :: zE 11 (.iload_n 1) 1 :: zE 12 (.aload_n 0) 1 :: zEf 13 (.getfield 19) 3 11 4 152 (2, 45, 0) :: zE 16 (.iload_n 2) 1 :: es) σ [vR 11 0, vI x1, vI x2, y3] [vI xs0] = zev zc0 G 9 krV es σ [vR 11 0, vI x1, vI x2, vI xs0] [vI x2, vR 45 0, vI x1, vR 45 0] := rfl
theorem t_X11_swaps_19 {G : Nat → zH → List zAV → List zAV → Option zH} (es : List zEnt) (σ : zH) (x2 : Int32) (x3 : Int32) (y1 : zAV)  : zev zc0 G 9 krV (zE 19 (.aload_n 0) 1 :: zEf 20 (.getfield 19) 3 11 4 152 (2, 45, 0) :: zE 23 (.iload_n 2) 1 :: zE 24 (.iload_n 3) 1 :: es) σ [vR 11 0, y1, vI x2, vI x3] [] = zev zc0 G 9 krV es σ [vR 11 0, y1, vI x2, vI x3] [vI x3, vI x2, vR 45 0] := rfl
noncomputable def d_X11_swaps (σ : zH) (xa1 : Int32) (xa2 : Int32) : Option zH :=
  ix xa1 12 fun j1 =>
  ix xa2 12 fun j2 =>
  ix xa1 12 fun j6 =>
  zlet (uI σ 45 0 j6 (σ.1 45 0 j2)) fun σ3 =>
  ix xa2 12 fun j5 =>
  zlet (uI σ3 45 0 j5 (σ.1 45 0 j1)) fun σ4 =>
  some σ4
theorem e_X11_swaps (σ : zH) (xa1 : Int32) (xa2 : Int32) : d_X11_swaps σ xa1 xa2 = zin zc0 (fun t => none) 9 krV b_X11_swaps 0 σ [vR 11 0, vI xa1, vI xa2, vU] [] := by
  unfold d_X11_swaps
  refine Eq.symm ((zin_b (es := q_X11_swaps_0) rfl).trans ?_)
  refine (t_X11_swaps_0 _ _ _ _ _).trans ?_
  refine (x_iald (N := 12) rfl rfl).trans (pix fun _ => ?_)
  refine (t_X11_swaps_6 _ _ _ _ _ _).trans ?_
  refine (x_iald (N := 12) rfl rfl).trans (pix fun _ => ?_)
  refine (x_iast (N := 12) rfl rfl).trans (pix fun _ => plt fun _ => ?_)
  refine (t_X11_swaps_19 _ _ _ _ _).trans ?_
  refine (x_iast (N := 12) rfl rfl).trans (pix fun _ => plt fun _ => ?_)
  exact x_vret
noncomputable def g_X11_swaps {ρ : Type} (σ : zH) (av : List zAV) (q : zH → zAV → Option ρ) : Option ρ := match av with
  | [.inr (.inr (.inl (11, 0))), .inl xa1, .inl xa2] => (d_X11_swaps σ xa1 xa2).bind fun σ => q σ vU
  | _ => none
theorem gr_X11_swaps {ρ : Type} (σ : zH) (xa1 : Int32) (xa2 : Int32) (q : zH → zAV → Option ρ) : g_X11_swaps σ [vR 11 0, vI xa1, vI xa2] q = (d_X11_swaps σ xa1 xa2).bind fun σ => q σ vU := rfl
theorem c_X11_swaps {ρ : Type} {X : zX} (hX : zHX X) {σ : zH} {av : List zAV} {q : zH → zAV → Option ρ} {r : ρ} (h : g_X11_swaps σ av q = some r) (hv : ∀ a ∈ av, zval X a) : zcon X 209 σ av q r := by
  unfold g_X11_swaps at h
  split at h
  · exact zcon_V (n := 209) (ml := 4) (rc := 9) (st := 0) (kd := 11) (np := 2) (by decide +kernel) rfl ⟨_, _, rfl, rfl⟩ (Nat.le_of_ble_eq_true rfl) hv h (fun y h1 => (zin_ok (hy_X11_swaps hX) bk_X11_swaps (fun t f hf => by
      cases hf) ((e_X11_swaps _ _ _).symm.trans h1)))
  · cases h
/-! SleepWavesModel.swap(III)I -/
def q_X11_swap_31 : List zEnt := zE 31 .ireturn 1 :: []
def q_X11_swap_30 : List zEnt := zEk 30 (.iconst (-1)) 1 (-1) :: q_X11_swap_31
def q_X11_swap_27 : List zEnt := zEa 27 (.ifCond .ne 5) 3 32 :: q_X11_swap_30
def q_X11_swap_24 : List zEnt := zEc 24 (.invokestatic 173) 3 125 3 129 0 :: q_X11_swap_27
def q_X11_swap_20 : List zEnt := zE 20 (.iload_n 3) 1 :: zE 21 .i2l 1 :: (22, (.lconst 0), 1, (0, 0, 0, 0), (0, 0, 0), 0, 0, []) :: (23, (.lconst 1), 1, (0, 0, 0, 0), (0, 0, 0), 0, 1, []) :: q_X11_swap_24
def q_X11_swap_17 : List zEnt := zEa 17 (.ifCond .eq 13) 3 30 :: q_X11_swap_20
def q_X11_swap_14 : List zEnt := zEc 14 (.invokestatic 173) 3 125 3 129 0 :: q_X11_swap_17
def q_X11_swap_8 : List zEnt := zE 8 (.iload_n 2) 1 :: zE 9 .i2l 1 :: (10, (.lconst 1), 1, (0, 0, 0, 0), (0, 0, 0), 0, 1, []) :: (11, (.ldc2_w 440), 3, (0, 0, 1603, 0), (0, 0, 0), 0, 192, []) :: q_X11_swap_14
def q_X11_swap_5 : List zEnt := zEa 5 (.ifCond .eq 25) 3 30 :: q_X11_swap_8
def q_X11_swap_2 : List zEnt := zEc 2 (.invokevirtual 418) 3 164 2 145 0 :: q_X11_swap_5
def q_X11_swap_0 : List zEnt := zE 0 (.aload_n 0) 1 :: zE 1 (.iload_n 1) 1 :: q_X11_swap_2
def q_X11_swap_40 : List zEnt := zE 40 (.istore 4) 2 :: zEk 42 (.bipush (-2)) 2 (-2) :: zE 44 (.istore 5) 2 :: zEk 46 (.iconst 0) 1 0 :: zE 47 (.istore 6) 2 :: [zE 49 .nop 0]
def q_X11_swap_37 : List zEnt := zEc 37 (.invokevirtual 444) 3 189 5 168 0 :: q_X11_swap_40
def q_X11_swap_32 : List zEnt := zE 32 (.aload_n 0) 1 :: zE 33 (.iload_n 1) 1 :: zEk 34 (.iconst (-1)) 1 (-1) :: zE 35 (.iload_n 2) 1 :: zEk 36 (.iconst 3) 1 3 :: q_X11_swap_37
def q_X11_swap_60 : List zEnt := zE 60 (.iload 6) 2 :: zEk 62 (.iconst 1) 1 1 :: zE 63 .iadd 1 :: zE 64 (.istore 7) 2 :: [zE 66 .nop 0]
def q_X11_swap_57 : List zEnt := zEa 57 (.if_icmp .ge 113) 3 170 :: q_X11_swap_60
def q_X11_swap_56 : List zEnt := zE 56 .iaload 1 :: q_X11_swap_57
def q_X11_swap_49 : List zEnt := zE 49 (.iload 6) 2 :: zE 51 (.aload_n 0) 1 :: zEf 52 (.getfield 7) 3 11 1 149 (2, 42, 0) :: zEk 55 (.iconst 0) 1 0 :: q_X11_swap_56
def q_X11_swap_135 : List zEnt := zEa 135 (.goto 5) 3 140 :: []
def q_X11_swap_127 : List zEnt := zEk 127 (.bipush 12) 2 12 :: zE 129 (.iload 6) 2 :: zE 131 .imul 1 :: zE 132 (.iload 7) 2 :: zE 134 .iadd 1 :: q_X11_swap_135
def q_X11_swap_124 : List zEnt := zEa 124 (.if_icmp .ge 14) 3 138 :: q_X11_swap_127
def q_X11_swap_120 : List zEnt := zE 120 (.iload 8) 2 :: zE 122 (.iload 4) 2 :: q_X11_swap_124
def q_X11_swap_117 : List zEnt := zEc 117 (.invokevirtual 472) 3 209 3 177 1 :: q_X11_swap_120
def q_X11_swap_110 : List zEnt := zE 110 (.istore 8) 2 :: zE 112 (.aload_n 0) 1 :: zE 113 (.iload 6) 2 :: zE 115 (.iload 7) 2 :: q_X11_swap_117
def q_X11_swap_107 : List zEnt := zEc 107 (.invokevirtual 444) 3 189 5 168 0 :: q_X11_swap_110
def q_X11_swap_102 : List zEnt := zE 102 (.aload_n 0) 1 :: zE 103 (.iload_n 1) 1 :: zEk 104 (.iconst (-1)) 1 (-1) :: zE 105 (.iload_n 2) 1 :: zEk 106 (.iconst 3) 1 3 :: q_X11_swap_107
def q_X11_swap_99 : List zEnt := zEc 99 (.invokevirtual 472) 3 209 3 177 1 :: q_X11_swap_102
def q_X11_swap_94 : List zEnt := zE 94 (.aload_n 0) 1 :: zE 95 (.iload 6) 2 :: zE 97 (.iload 7) 2 :: q_X11_swap_99
def q_X11_swap_91 : List zEnt := zEa 91 (.if_icmp .eq 67) 3 158 :: q_X11_swap_94
def q_X11_swap_90 : List zEnt := zE 90 .iaload 1 :: q_X11_swap_91
def q_X11_swap_84 : List zEnt := zE 84 (.aload_n 0) 1 :: zEf 85 (.getfield 19) 3 11 4 152 (2, 45, 0) :: zE 88 (.iload 7) 2 :: q_X11_swap_90
def q_X11_swap_83 : List zEnt := zE 83 .iaload 1 :: q_X11_swap_84
def q_X11_swap_77 : List zEnt := zE 77 (.aload_n 0) 1 :: zEf 78 (.getfield 19) 3 11 4 152 (2, 45, 0) :: zE 81 (.iload 6) 2 :: q_X11_swap_83
def q_X11_swap_74 : List zEnt := zEa 74 (.if_icmp .ge 90) 3 164 :: q_X11_swap_77
def q_X11_swap_73 : List zEnt := zE 73 .iaload 1 :: q_X11_swap_74
def q_X11_swap_66 : List zEnt := zE 66 (.iload 7) 2 :: zE 68 (.aload_n 0) 1 :: zEf 69 (.getfield 7) 3 11 1 149 (2, 42, 0) :: zEk 72 (.iconst 0) 1 0 :: q_X11_swap_73
def q_X11_swap_138 : List zEnt := zE 138 (.iload 5) 2 :: [zE 140 .nop 0]
def q_X11_swap_151 : List zEnt := zEa 151 (.goto 5) 3 156 :: []
def q_X11_swap_149 : List zEnt := zE 149 (.iload 8) 2 :: q_X11_swap_151
def q_X11_swap_146 : List zEnt := zEa 146 (.if_icmp .ge 8) 3 154 :: q_X11_swap_149
def q_X11_swap_140 : List zEnt := zE 140 (.istore 5) 2 :: zE 142 (.iload 8) 2 :: zE 144 (.iload 4) 2 :: q_X11_swap_146
def q_X11_swap_154 : List zEnt := zE 154 (.iload 4) 2 :: [zE 156 .nop 0]
def q_X11_swap_161 : List zEnt := zEa 161 (.goto (-95)) 3 66 :: []
def q_X11_swap_158 : List zEnt := zEk 158 (.iinc 7 1) 3 1 :: q_X11_swap_161
def q_X11_swap_156 : List zEnt := zE 156 (.istore 4) 2 :: q_X11_swap_158
def q_X11_swap_167 : List zEnt := zEa 167 (.goto (-118)) 3 49 :: []
def q_X11_swap_164 : List zEnt := zEk 164 (.iinc 6 1) 3 1 :: q_X11_swap_167
def q_X11_swap_183 : List zEnt := zEa 183 (.goto 5) 3 188 :: []
def q_X11_swap_181 : List zEnt := zE 181 (.iload 5) 2 :: q_X11_swap_183
def q_X11_swap_178 : List zEnt := zEa 178 (.ifCond .ne 8) 3 186 :: q_X11_swap_181
def q_X11_swap_177 : List zEnt := zE 177 (.iload_n 3) 1 :: q_X11_swap_178
def q_X11_swap_174 : List zEnt := zEa 174 (.if_icmp .eq 7) 3 181 :: q_X11_swap_177
def q_X11_swap_170 : List zEnt := zE 170 (.iload 5) 2 :: zEk 172 (.bipush (-2)) 2 (-2) :: q_X11_swap_174
def q_X11_swap_188 : List zEnt := zE 188 .ireturn 1 :: []
def q_X11_swap_186 : List zEnt := zE 186 (.iload 4) 2 :: q_X11_swap_188
def b_X11_swap : List (Nat × List zEnt) := [(0, q_X11_swap_0), (30, q_X11_swap_30), (32, q_X11_swap_32), (49, q_X11_swap_49), (66, q_X11_swap_66), (138, q_X11_swap_138), (140, q_X11_swap_140), (154, q_X11_swap_154), (156, q_X11_swap_156), (158, q_X11_swap_158), (164, q_X11_swap_164), (170, q_X11_swap_170), (181, q_X11_swap_181), (186, q_X11_swap_186), (188, q_X11_swap_188)]
theorem bk_X11_swap : zchB 210 b_X11_swap = true := by decide +kernel
noncomputable def cc_X11_swap {ρ : Type} : Nat → zH → List zAV → (zH → zAV → Option ρ) → Option ρ := fun n σ av q => if n = 164 then g_X11_isLaw σ av q else if n = 125 then g_X11_in σ av q else if n = 189 then g_X11_tries σ av q else if n = 209 then g_X11_swaps σ av q else none
theorem cs_X11_swap {ρ : Type} {X : zX} (hX : zHX X) : zCS X (cc_X11_swap (ρ := ρ)) := by
  intro n σ av q r h hv
  unfold cc_X11_swap at h
  by_cases e_X11_isLaw : n = 164
  · rw [if_pos e_X11_isLaw] at h
    subst e_X11_isLaw
    exact c_X11_isLaw hX h hv
  rw [if_neg e_X11_isLaw] at h
  by_cases e_X11_in : n = 125
  · rw [if_pos e_X11_in] at h
    subst e_X11_in
    exact c_X11_in hX h hv
  rw [if_neg e_X11_in] at h
  by_cases e_X11_tries : n = 189
  · rw [if_pos e_X11_tries] at h
    subst e_X11_tries
    exact c_X11_tries hX h hv
  rw [if_neg e_X11_tries] at h
  by_cases e_X11_swaps : n = 209
  · rw [if_pos e_X11_swaps] at h
    subst e_X11_swaps
    exact c_X11_swaps hX h hv
  rw [if_neg e_X11_swaps] at h
  cases h
theorem cl_X11_swap_X11_isLaw {ρ : Type} (σ : zH) (av : List zAV) (q : zH → zAV → Option ρ) : cc_X11_swap 164 σ av q = g_X11_isLaw σ av q := rfl
theorem cl_X11_swap_X11_in {ρ : Type} (σ : zH) (av : List zAV) (q : zH → zAV → Option ρ) : cc_X11_swap 125 σ av q = g_X11_in σ av q := rfl
theorem cl_X11_swap_X11_tries {ρ : Type} (σ : zH) (av : List zAV) (q : zH → zAV → Option ρ) : cc_X11_swap 189 σ av q = g_X11_tries σ av q := rfl
theorem cl_X11_swap_X11_swaps {ρ : Type} (σ : zH) (av : List zAV) (q : zH → zAV → Option ρ) : cc_X11_swap 209 σ av q = g_X11_swaps σ av q := rfl
theorem hy_X11_swap {ρ : Type} {X : zX} (hX : zHX X) : zHY X 210 (cc_X11_swap (ρ := ρ)) := zHX.hY hX (cs_X11_swap hX) (zmok_all 210 (by decide))
def gl_X11_swap_49 {ρ : Type} (f : zH → Int32 → Int32 → Int32 → Int32 → Int32 → Int32 → Option ρ) (σ : zH) (L st : List zAV) : Option ρ := match L, st with
  | [.inr (.inr (.inl (11, 0))), .inl x1, .inl x2, .inl x3, .inl x4, .inl x5, .inl x6, _, _], [] => f σ x1 x2 x3 x4 x5 x6
  | _, _ => none
def gl_X11_swap_66 {ρ : Type} (f : zH → Int32 → Int32 → Int32 → Int32 → Int32 → Int32 → Int32 → Option ρ) (σ : zH) (L st : List zAV) : Option ρ := match L, st with
  | [.inr (.inr (.inl (11, 0))), .inl x1, .inl x2, .inl x3, .inl x4, .inl x5, .inl x6, .inl x7, _], [] => f σ x1 x2 x3 x4 x5 x6 x7
  | _, _ => none
def gl_X11_swap_140 {ρ : Type} (f : zH → Int32 → Int32 → Int32 → Int32 → Int32 → Int32 → Int32 → Int32 → Option ρ) (σ : zH) (L st : List zAV) : Option ρ := match L, st with
  | [.inr (.inr (.inl (11, 0))), .inl x1, .inl x2, .inl x3, .inl x4, _, .inl x6, .inl x7, .inl x8], [.inl xs0] => f σ x1 x2 x3 x4 x6 x7 x8 xs0
  | _, _ => none
def gl_X11_swap_156 {ρ : Type} (f : zH → Int32 → Int32 → Int32 → Int32 → Int32 → Int32 → Int32 → Option ρ) (σ : zH) (L st : List zAV) : Option ρ := match L, st with
  | [.inr (.inr (.inl (11, 0))), .inl x1, .inl x2, .inl x3, _, .inl x5, .inl x6, .inl x7, _], [.inl xs0] => f σ x1 x2 x3 x5 x6 x7 xs0
  | _, _ => none
def gl_X11_swap_164 {ρ : Type} (f : zH → Int32 → Int32 → Int32 → Int32 → Int32 → Int32 → Option ρ) (σ : zH) (L st : List zAV) : Option ρ := match L, st with
  | [.inr (.inr (.inl (11, 0))), .inl x1, .inl x2, .inl x3, .inl x4, .inl x5, .inl x6, _, _], [] => f σ x1 x2 x3 x4 x5 x6
  | _, _ => none
def gl_X11_swap_170 {ρ : Type} (f : zH → Int32 → Int32 → Int32 → Option ρ) (σ : zH) (L st : List zAV) : Option ρ := match L, st with
  | [_, _, _, .inl x3, .inl x4, .inl x5, _, _, _], [] => f σ x3 x4 x5
  | _, _ => none
theorem glr_X11_swap_49 {ρ : Type} (f : zH → Int32 → Int32 → Int32 → Int32 → Int32 → Int32 → Option ρ) (σ : zH) (x1 : Int32) (x2 : Int32) (x3 : Int32) (x4 : Int32) (x5 : Int32) (x6 : Int32) (y7 : zAV) (y8 : zAV) : gl_X11_swap_49 f σ [vR 11 0, vI x1, vI x2, vI x3, vI x4, vI x5, vI x6, y7, y8] [] = f σ x1 x2 x3 x4 x5 x6 := rfl
theorem glr_X11_swap_66 {ρ : Type} (f : zH → Int32 → Int32 → Int32 → Int32 → Int32 → Int32 → Int32 → Option ρ) (σ : zH) (x1 : Int32) (x2 : Int32) (x3 : Int32) (x4 : Int32) (x5 : Int32) (x6 : Int32) (x7 : Int32) (y8 : zAV) : gl_X11_swap_66 f σ [vR 11 0, vI x1, vI x2, vI x3, vI x4, vI x5, vI x6, vI x7, y8] [] = f σ x1 x2 x3 x4 x5 x6 x7 := rfl
theorem glr_X11_swap_140 {ρ : Type} (f : zH → Int32 → Int32 → Int32 → Int32 → Int32 → Int32 → Int32 → Int32 → Option ρ) (σ : zH) (x1 : Int32) (x2 : Int32) (x3 : Int32) (x4 : Int32) (x6 : Int32) (x7 : Int32) (x8 : Int32) (xs0 : Int32) (y5 : zAV) : gl_X11_swap_140 f σ [vR 11 0, vI x1, vI x2, vI x3, vI x4, y5, vI x6, vI x7, vI x8] [vI xs0] = f σ x1 x2 x3 x4 x6 x7 x8 xs0 := rfl
theorem glr_X11_swap_156 {ρ : Type} (f : zH → Int32 → Int32 → Int32 → Int32 → Int32 → Int32 → Int32 → Option ρ) (σ : zH) (x1 : Int32) (x2 : Int32) (x3 : Int32) (x5 : Int32) (x6 : Int32) (x7 : Int32) (xs0 : Int32) (y4 : zAV) (y8 : zAV) : gl_X11_swap_156 f σ [vR 11 0, vI x1, vI x2, vI x3, y4, vI x5, vI x6, vI x7, y8] [vI xs0] = f σ x1 x2 x3 x5 x6 x7 xs0 := rfl
theorem glr_X11_swap_164 {ρ : Type} (f : zH → Int32 → Int32 → Int32 → Int32 → Int32 → Int32 → Option ρ) (σ : zH) (x1 : Int32) (x2 : Int32) (x3 : Int32) (x4 : Int32) (x5 : Int32) (x6 : Int32) (y7 : zAV) (y8 : zAV) : gl_X11_swap_164 f σ [vR 11 0, vI x1, vI x2, vI x3, vI x4, vI x5, vI x6, y7, y8] [] = f σ x1 x2 x3 x4 x5 x6 := rfl
theorem glr_X11_swap_170 {ρ : Type} (f : zH → Int32 → Int32 → Int32 → Option ρ) (σ : zH) (x3 : Int32) (x4 : Int32) (x5 : Int32) (y0 : zAV) (y1 : zAV) (y2 : zAV) (y6 : zAV) (y7 : zAV) (y8 : zAV) : gl_X11_swap_170 f σ [y0, y1, y2, vI x3, vI x4, vI x5, y6, y7, y8] [] = f σ x3 x4 x5 := rfl
theorem t_X11_swap_0 {G : Nat → zH → List zAV → List zAV → Option (zH × Int32)} (es : List zEnt) (σ : zH) (x1 : Int32) (x2 : Int32) (x3 : Int32) (y4 : zAV) (y5 : zAV) (y6 : zAV) (y7 : zAV) (y8 : zAV)  : zev cc_X11_swap G 0 krI (zE 0 (.aload_n 0) 1 :: zE 1 (.iload_n 1) 1 :: es) σ [vR 11 0, vI x1, vI x2, vI x3, y4, y5, y6, y7, y8] [] = zev cc_X11_swap G 0 krI es σ [vR 11 0, vI x1, vI x2, vI x3, y4, y5, y6, y7, y8] [vI x1, vR 11 0] := rfl
theorem t_X11_swap_8 {G : Nat → zH → List zAV → List zAV → Option (zH × Int32)} (es : List zEnt) (σ : zH) (x1 : Int32) (x2 : Int32) (x3 : Int32) (y4 : zAV) (y5 : zAV) (y6 : zAV) (y7 : zAV) (y8 : zAV) (w10 : Int64) (w11 : Int64) : zev cc_X11_swap G 0 krI (zE 8 (.iload_n 2) 1 :: zE 9 .i2l 1 :: (10, (.lconst 1), 1, (0, 0, 0, 0), (0, 0, 0), 0, w10, []) :: (11, (.ldc2_w 440), 3, (0, 0, 1603, 0), (0, 0, 0), 0, w11, []) :: es) σ [vR 11 0, vI x1, vI x2, vI x3, y4, y5, y6, y7, y8] [] = zev cc_X11_swap G 0 krI es σ [vR 11 0, vI x1, vI x2, vI x3, y4, y5, y6, y7, y8] [vL w11, vL w10, vL x2.toInt64] := rfl
theorem t_X11_swap_20 {G : Nat → zH → List zAV → List zAV → Option (zH × Int32)} (es : List zEnt) (σ : zH) (x1 : Int32) (x2 : Int32) (x3 : Int32) (y4 : zAV) (y5 : zAV) (y6 : zAV) (y7 : zAV) (y8 : zAV) (w22 : Int64) (w23 : Int64) : zev cc_X11_swap G 0 krI (zE 20 (.iload_n 3) 1 :: zE 21 .i2l 1 :: (22, (.lconst 0), 1, (0, 0, 0, 0), (0, 0, 0), 0, w22, []) :: (23, (.lconst 1), 1, (0, 0, 0, 0), (0, 0, 0), 0, w23, []) :: es) σ [vR 11 0, vI x1, vI x2, vI x3, y4, y5, y6, y7, y8] [] = zev cc_X11_swap G 0 krI es σ [vR 11 0, vI x1, vI x2, vI x3, y4, y5, y6, y7, y8] [vL w23, vL w22, vL x3.toInt64] := rfl
theorem t_X11_swap_30 {G : Nat → zH → List zAV → List zAV → Option (zH × Int32)} (es : List zEnt) (σ : zH)  (y0 : zAV) (y1 : zAV) (y2 : zAV) (y3 : zAV) (y4 : zAV) (y5 : zAV) (y6 : zAV) (y7 : zAV) (y8 : zAV) (w30 : Int32) : zev cc_X11_swap G 0 krI (zEk 30 (.iconst (-1)) 1 w30 :: es) σ [y0, y1, y2, y3, y4, y5, y6, y7, y8] [] = zev cc_X11_swap G 0 krI es σ [y0, y1, y2, y3, y4, y5, y6, y7, y8] [vI w30] := rfl
theorem t_X11_swap_32 {G : Nat → zH → List zAV → List zAV → Option (zH × Int32)} (es : List zEnt) (σ : zH) (x1 : Int32) (x2 : Int32) (x3 : Int32) (y4 : zAV) (y5 : zAV) (y6 : zAV) (y7 : zAV) (y8 : zAV) (w34 : Int32) (w36 : Int32) : zev cc_X11_swap G 0 krI (zE 32 (.aload_n 0) 1 :: zE 33 (.iload_n 1) 1 :: zEk 34 (.iconst (-1)) 1 w34 :: zE 35 (.iload_n 2) 1 :: zEk 36 (.iconst 3) 1 w36 :: es) σ [vR 11 0, vI x1, vI x2, vI x3, y4, y5, y6, y7, y8] [] = zev cc_X11_swap G 0 krI es σ [vR 11 0, vI x1, vI x2, vI x3, y4, y5, y6, y7, y8] [vI w36, vI x2, vI w34, vI x1, vR 11 0] := rfl
theorem t_X11_swap_40 {G : Nat → zH → List zAV → List zAV → Option (zH × Int32)} (es : List zEnt) (σ : zH) (x1 : Int32) (x2 : Int32) (x3 : Int32) (xs0 : Int32) (y4 : zAV) (y5 : zAV) (y6 : zAV) (y7 : zAV) (y8 : zAV) (w42 : Int32) (w46 : Int32) : zev cc_X11_swap G 0 krI (zE 40 (.istore 4) 2 :: zEk 42 (.bipush (-2)) 2 w42 :: zE 44 (.istore 5) 2 :: zEk 46 (.iconst 0) 1 w46 :: zE 47 (.istore 6) 2 :: es) σ [vR 11 0, vI x1, vI x2, vI x3, y4, y5, y6, y7, y8] [vI xs0] = zev cc_X11_swap G 0 krI es σ [vR 11 0, vI x1, vI x2, vI x3, vI xs0, vI w42, vI w46, y7, y8] [] := rfl
theorem t_X11_swap_49 {G : Nat → zH → List zAV → List zAV → Option (zH × Int32)} (es : List zEnt) (σ : zH) (x1 : Int32) (x2 : Int32) (x3 : Int32) (x4 : Int32) (x5 : Int32) (x6 : Int32) (y7 : zAV) (y8 : zAV) (w55 : Int32) : zev cc_X11_swap G 0 krI (zE 49 (.iload 6) 2 :: zE 51 (.aload_n 0) 1 :: zEf 52 (.getfield 7) 3 11 1 149 (2, 42, 0) :: zEk 55 (.iconst 0) 1 w55 :: es) σ [vR 11 0, vI x1, vI x2, vI x3, vI x4, vI x5, vI x6, y7, y8] [] = zev cc_X11_swap G 0 krI es σ [vR 11 0, vI x1, vI x2, vI x3, vI x4, vI x5, vI x6, y7, y8] [vI w55, vR 42 0, vI x6] := rfl
theorem t_X11_swap_60 {G : Nat → zH → List zAV → List zAV → Option (zH × Int32)} (es : List zEnt) (σ : zH) (x1 : Int32) (x2 : Int32) (x3 : Int32) (x4 : Int32) (x5 : Int32) (x6 : Int32) (y7 : zAV) (y8 : zAV) (w62 : Int32) : zev cc_X11_swap G 0 krI (zE 60 (.iload 6) 2 :: zEk 62 (.iconst 1) 1 w62 :: zE 63 .iadd 1 :: zE 64 (.istore 7) 2 :: es) σ [vR 11 0, vI x1, vI x2, vI x3, vI x4, vI x5, vI x6, y7, y8] [] = zev cc_X11_swap G 0 krI es σ [vR 11 0, vI x1, vI x2, vI x3, vI x4, vI x5, vI x6, vI (x6 + w62), y8] [] := rfl
theorem t_X11_swap_66 {G : Nat → zH → List zAV → List zAV → Option (zH × Int32)} (es : List zEnt) (σ : zH) (x1 : Int32) (x2 : Int32) (x3 : Int32) (x4 : Int32) (x5 : Int32) (x6 : Int32) (x7 : Int32) (y8 : zAV) (w72 : Int32) : zev cc_X11_swap G 0 krI (zE 66 (.iload 7) 2 :: zE 68 (.aload_n 0) 1 :: zEf 69 (.getfield 7) 3 11 1 149 (2, 42, 0) :: zEk 72 (.iconst 0) 1 w72 :: es) σ [vR 11 0, vI x1, vI x2, vI x3, vI x4, vI x5, vI x6, vI x7, y8] [] = zev cc_X11_swap G 0 krI es σ [vR 11 0, vI x1, vI x2, vI x3, vI x4, vI x5, vI x6, vI x7, y8] [vI w72, vR 42 0, vI x7] := rfl
theorem t_X11_swap_77 {G : Nat → zH → List zAV → List zAV → Option (zH × Int32)} (es : List zEnt) (σ : zH) (x1 : Int32) (x2 : Int32) (x3 : Int32) (x4 : Int32) (x5 : Int32) (x6 : Int32) (x7 : Int32) (y8 : zAV)  : zev cc_X11_swap G 0 krI (zE 77 (.aload_n 0) 1 :: zEf 78 (.getfield 19) 3 11 4 152 (2, 45, 0) :: zE 81 (.iload 6) 2 :: es) σ [vR 11 0, vI x1, vI x2, vI x3, vI x4, vI x5, vI x6, vI x7, y8] [] = zev cc_X11_swap G 0 krI es σ [vR 11 0, vI x1, vI x2, vI x3, vI x4, vI x5, vI x6, vI x7, y8] [vI x6, vR 45 0] := rfl
theorem t_X11_swap_84 {G : Nat → zH → List zAV → List zAV → Option (zH × Int32)} (es : List zEnt) (σ : zH) (x1 : Int32) (x2 : Int32) (x3 : Int32) (x4 : Int32) (x5 : Int32) (x6 : Int32) (x7 : Int32) (xs0 : Int32) (y8 : zAV)  : zev cc_X11_swap G 0 krI (zE 84 (.aload_n 0) 1 :: zEf 85 (.getfield 19) 3 11 4 152 (2, 45, 0) :: zE 88 (.iload 7) 2 :: es) σ [vR 11 0, vI x1, vI x2, vI x3, vI x4, vI x5, vI x6, vI x7, y8] [vI xs0] = zev cc_X11_swap G 0 krI es σ [vR 11 0, vI x1, vI x2, vI x3, vI x4, vI x5, vI x6, vI x7, y8] [vI x7, vR 45 0, vI xs0] := rfl
theorem t_X11_swap_94 {G : Nat → zH → List zAV → List zAV → Option (zH × Int32)} (es : List zEnt) (σ : zH) (x1 : Int32) (x2 : Int32) (x3 : Int32) (x4 : Int32) (x5 : Int32) (x6 : Int32) (x7 : Int32) (y8 : zAV)  : zev cc_X11_swap G 0 krI (zE 94 (.aload_n 0) 1 :: zE 95 (.iload 6) 2 :: zE 97 (.iload 7) 2 :: es) σ [vR 11 0, vI x1, vI x2, vI x3, vI x4, vI x5, vI x6, vI x7, y8] [] = zev cc_X11_swap G 0 krI es σ [vR 11 0, vI x1, vI x2, vI x3, vI x4, vI x5, vI x6, vI x7, y8] [vI x7, vI x6, vR 11 0] := rfl
theorem t_X11_swap_102 {G : Nat → zH → List zAV → List zAV → Option (zH × Int32)} (es : List zEnt) (σ : zH) (x1 : Int32) (x2 : Int32) (x3 : Int32) (x4 : Int32) (x5 : Int32) (x6 : Int32) (x7 : Int32) (y8 : zAV) (w104 : Int32) (w106 : Int32) : zev cc_X11_swap G 0 krI (zE 102 (.aload_n 0) 1 :: zE 103 (.iload_n 1) 1 :: zEk 104 (.iconst (-1)) 1 w104 :: zE 105 (.iload_n 2) 1 :: zEk 106 (.iconst 3) 1 w106 :: es) σ [vR 11 0, vI x1, vI x2, vI x3, vI x4, vI x5, vI x6, vI x7, y8] [] = zev cc_X11_swap G 0 krI es σ [vR 11 0, vI x1, vI x2, vI x3, vI x4, vI x5, vI x6, vI x7, y8] [vI w106, vI x2, vI w104, vI x1, vR 11 0] := rfl
theorem t_X11_swap_110 {G : Nat → zH → List zAV → List zAV → Option (zH × Int32)} (es : List zEnt) (σ : zH) (x1 : Int32) (x2 : Int32) (x3 : Int32) (x4 : Int32) (x5 : Int32) (x6 : Int32) (x7 : Int32) (xs0 : Int32) (y8 : zAV)  : zev cc_X11_swap G 0 krI (zE 110 (.istore 8) 2 :: zE 112 (.aload_n 0) 1 :: zE 113 (.iload 6) 2 :: zE 115 (.iload 7) 2 :: es) σ [vR 11 0, vI x1, vI x2, vI x3, vI x4, vI x5, vI x6, vI x7, y8] [vI xs0] = zev cc_X11_swap G 0 krI es σ [vR 11 0, vI x1, vI x2, vI x3, vI x4, vI x5, vI x6, vI x7, vI xs0] [vI x7, vI x6, vR 11 0] := rfl
theorem t_X11_swap_120 {G : Nat → zH → List zAV → List zAV → Option (zH × Int32)} (es : List zEnt) (σ : zH) (x1 : Int32) (x2 : Int32) (x3 : Int32) (x4 : Int32) (x5 : Int32) (x6 : Int32) (x7 : Int32) (x8 : Int32)   : zev cc_X11_swap G 0 krI (zE 120 (.iload 8) 2 :: zE 122 (.iload 4) 2 :: es) σ [vR 11 0, vI x1, vI x2, vI x3, vI x4, vI x5, vI x6, vI x7, vI x8] [] = zev cc_X11_swap G 0 krI es σ [vR 11 0, vI x1, vI x2, vI x3, vI x4, vI x5, vI x6, vI x7, vI x8] [vI x4, vI x8] := rfl
theorem t_X11_swap_127 {G : Nat → zH → List zAV → List zAV → Option (zH × Int32)} (es : List zEnt) (σ : zH) (x1 : Int32) (x2 : Int32) (x3 : Int32) (x4 : Int32) (x6 : Int32) (x7 : Int32) (x8 : Int32) (y5 : zAV) (w127 : Int32) : zev cc_X11_swap G 0 krI (zEk 127 (.bipush 12) 2 w127 :: zE 129 (.iload 6) 2 :: zE 131 .imul 1 :: zE 132 (.iload 7) 2 :: zE 134 .iadd 1 :: es) σ [vR 11 0, vI x1, vI x2, vI x3, vI x4, y5, vI x6, vI x7, vI x8] [] = zev cc_X11_swap G 0 krI es σ [vR 11 0, vI x1, vI x2, vI x3, vI x4, y5, vI x6, vI x7, vI x8] [vI ((w127 * x6) + x7)] := rfl
theorem t_X11_swap_138 {G : Nat → zH → List zAV → List zAV → Option (zH × Int32)} (es : List zEnt) (σ : zH) (x1 : Int32) (x2 : Int32) (x3 : Int32) (x4 : Int32) (x5 : Int32) (x6 : Int32) (x7 : Int32) (x8 : Int32)   : zev cc_X11_swap G 0 krI (zE 138 (.iload 5) 2 :: es) σ [vR 11 0, vI x1, vI x2, vI x3, vI x4, vI x5, vI x6, vI x7, vI x8] [] = zev cc_X11_swap G 0 krI es σ [vR 11 0, vI x1, vI x2, vI x3, vI x4, vI x5, vI x6, vI x7, vI x8] [vI x5] := rfl
theorem t_X11_swap_140 {G : Nat → zH → List zAV → List zAV → Option (zH × Int32)} (es : List zEnt) (σ : zH) (x1 : Int32) (x2 : Int32) (x3 : Int32) (x4 : Int32) (x6 : Int32) (x7 : Int32) (x8 : Int32) (xs0 : Int32) (y5 : zAV)  : zev cc_X11_swap G 0 krI (zE 140 (.istore 5) 2 :: zE 142 (.iload 8) 2 :: zE 144 (.iload 4) 2 :: es) σ [vR 11 0, vI x1, vI x2, vI x3, vI x4, y5, vI x6, vI x7, vI x8] [vI xs0] = zev cc_X11_swap G 0 krI es σ [vR 11 0, vI x1, vI x2, vI x3, vI x4, vI xs0, vI x6, vI x7, vI x8] [vI x4, vI x8] := rfl
theorem t_X11_swap_149 {G : Nat → zH → List zAV → List zAV → Option (zH × Int32)} (es : List zEnt) (σ : zH) (x1 : Int32) (x2 : Int32) (x3 : Int32) (x5 : Int32) (x6 : Int32) (x7 : Int32) (x8 : Int32) (y4 : zAV)  : zev cc_X11_swap G 0 krI (zE 149 (.iload 8) 2 :: es) σ [vR 11 0, vI x1, vI x2, vI x3, y4, vI x5, vI x6, vI x7, vI x8] [] = zev cc_X11_swap G 0 krI es σ [vR 11 0, vI x1, vI x2, vI x3, y4, vI x5, vI x6, vI x7, vI x8] [vI x8] := rfl
theorem t_X11_swap_154 {G : Nat → zH → List zAV → List zAV → Option (zH × Int32)} (es : List zEnt) (σ : zH) (x1 : Int32) (x2 : Int32) (x3 : Int32) (x4 : Int32) (x5 : Int32) (x6 : Int32) (x7 : Int32) (y8 : zAV)  : zev cc_X11_swap G 0 krI (zE 154 (.iload 4) 2 :: es) σ [vR 11 0, vI x1, vI x2, vI x3, vI x4, vI x5, vI x6, vI x7, y8] [] = zev cc_X11_swap G 0 krI es σ [vR 11 0, vI x1, vI x2, vI x3, vI x4, vI x5, vI x6, vI x7, y8] [vI x4] := rfl
theorem t_X11_swap_156 {G : Nat → zH → List zAV → List zAV → Option (zH × Int32)} (es : List zEnt) (σ : zH) (x1 : Int32) (x2 : Int32) (x3 : Int32) (x5 : Int32) (x6 : Int32) (x7 : Int32) (xs0 : Int32) (y4 : zAV) (y8 : zAV) (w158 : Int32) : zev cc_X11_swap G 0 krI (zE 156 (.istore 4) 2 :: zEk 158 (.iinc 7 1) 3 w158 :: es) σ [vR 11 0, vI x1, vI x2, vI x3, y4, vI x5, vI x6, vI x7, y8] [vI xs0] = zev cc_X11_swap G 0 krI es σ [vR 11 0, vI x1, vI x2, vI x3, vI xs0, vI x5, vI x6, vI (x7 + w158), y8] [] := rfl
theorem t_X11_swap_158 {G : Nat → zH → List zAV → List zAV → Option (zH × Int32)} (es : List zEnt) (σ : zH) (x1 : Int32) (x2 : Int32) (x3 : Int32) (x4 : Int32) (x5 : Int32) (x6 : Int32) (x7 : Int32) (y8 : zAV) (w158 : Int32) : zev cc_X11_swap G 0 krI (zEk 158 (.iinc 7 1) 3 w158 :: es) σ [vR 11 0, vI x1, vI x2, vI x3, vI x4, vI x5, vI x6, vI x7, y8] [] = zev cc_X11_swap G 0 krI es σ [vR 11 0, vI x1, vI x2, vI x3, vI x4, vI x5, vI x6, vI (x7 + w158), y8] [] := rfl
theorem t_X11_swap_164 {G : Nat → zH → List zAV → List zAV → Option (zH × Int32)} (es : List zEnt) (σ : zH) (x1 : Int32) (x2 : Int32) (x3 : Int32) (x4 : Int32) (x5 : Int32) (x6 : Int32) (y7 : zAV) (y8 : zAV) (w164 : Int32) : zev cc_X11_swap G 0 krI (zEk 164 (.iinc 6 1) 3 w164 :: es) σ [vR 11 0, vI x1, vI x2, vI x3, vI x4, vI x5, vI x6, y7, y8] [] = zev cc_X11_swap G 0 krI es σ [vR 11 0, vI x1, vI x2, vI x3, vI x4, vI x5, vI (x6 + w164), y7, y8] [] := rfl
theorem t_X11_swap_170 {G : Nat → zH → List zAV → List zAV → Option (zH × Int32)} (es : List zEnt) (σ : zH) (x3 : Int32) (x4 : Int32) (x5 : Int32) (y0 : zAV) (y1 : zAV) (y2 : zAV) (y6 : zAV) (y7 : zAV) (y8 : zAV) (w172 : Int32) : zev cc_X11_swap G 0 krI (zE 170 (.iload 5) 2 :: zEk 172 (.bipush (-2)) 2 w172 :: es) σ [y0, y1, y2, vI x3, vI x4, vI x5, y6, y7, y8] [] = zev cc_X11_swap G 0 krI es σ [y0, y1, y2, vI x3, vI x4, vI x5, y6, y7, y8] [vI w172, vI x5] := rfl
theorem t_X11_swap_177 {G : Nat → zH → List zAV → List zAV → Option (zH × Int32)} (es : List zEnt) (σ : zH) (x3 : Int32) (x4 : Int32) (x5 : Int32) (y0 : zAV) (y1 : zAV) (y2 : zAV) (y6 : zAV) (y7 : zAV) (y8 : zAV)  : zev cc_X11_swap G 0 krI (zE 177 (.iload_n 3) 1 :: es) σ [y0, y1, y2, vI x3, vI x4, vI x5, y6, y7, y8] [] = zev cc_X11_swap G 0 krI es σ [y0, y1, y2, vI x3, vI x4, vI x5, y6, y7, y8] [vI x3] := rfl
theorem t_X11_swap_181 {G : Nat → zH → List zAV → List zAV → Option (zH × Int32)} (es : List zEnt) (σ : zH) (x5 : Int32) (y0 : zAV) (y1 : zAV) (y2 : zAV) (y3 : zAV) (y4 : zAV) (y6 : zAV) (y7 : zAV) (y8 : zAV)  : zev cc_X11_swap G 0 krI (zE 181 (.iload 5) 2 :: es) σ [y0, y1, y2, y3, y4, vI x5, y6, y7, y8] [] = zev cc_X11_swap G 0 krI es σ [y0, y1, y2, y3, y4, vI x5, y6, y7, y8] [vI x5] := rfl
theorem t_X11_swap_186 {G : Nat → zH → List zAV → List zAV → Option (zH × Int32)} (es : List zEnt) (σ : zH) (x4 : Int32) (y0 : zAV) (y1 : zAV) (y2 : zAV) (y3 : zAV) (y5 : zAV) (y6 : zAV) (y7 : zAV) (y8 : zAV)  : zev cc_X11_swap G 0 krI (zE 186 (.iload 4) 2 :: es) σ [y0, y1, y2, y3, vI x4, y5, y6, y7, y8] [] = zev cc_X11_swap G 0 krI es σ [y0, y1, y2, y3, vI x4, y5, y6, y7, y8] [vI x4] := rfl
noncomputable def j_X11_swap_156 (c66 : zH → Int32 → Int32 → Int32 → Int32 → Int32 → Int32 → Int32 → Option (zH × Int32)) (σ : zH) (x1 : Int32) (x2 : Int32) (x3 : Int32) (x5 : Int32) (x6 : Int32) (x7 : Int32) (xs0 : Int32) : Option (zH × Int32) :=
  c66 σ x1 x2 x3 xs0 x5 x6 (x7 + (1 : Int32))
theorem e_X11_swap_156 (c66 : zH → Int32 → Int32 → Int32 → Int32 → Int32 → Int32 → Int32 → Option (zH × Int32)) (σ : zH) (x1 : Int32) (x2 : Int32) (x3 : Int32) (x5 : Int32) (x6 : Int32) (x7 : Int32) (xs0 : Int32) (y4 : zAV) (y8 : zAV) : j_X11_swap_156 c66 σ x1 x2 x3 x5 x6 x7 xs0 = zin cc_X11_swap (fun t => if t = 66 then some (gl_X11_swap_66 c66) else none) 0 krI b_X11_swap 156 σ [vR 11 0, vI x1, vI x2, vI x3, y4, vI x5, vI x6, vI x7, y8] [vI xs0] := by
  unfold j_X11_swap_156
  refine Eq.symm ((zin_b (es := q_X11_swap_156) rfl).trans ?_)
  refine (t_X11_swap_156 _ _ _ _ _ _ _ _ _ _ _ _).trans ?_
  refine x_goto.trans ?_
  exact (zrun_c rfl).trans (glr_X11_swap_66 _ _ _ _ _ _ _ _ _ _)
theorem s_X11_swap_156 {X : zX} (hX : zHX X) {c66 : zH → Int32 → Int32 → Int32 → Int32 → Int32 → Int32 → Int32 → Option (zH × Int32)} (h66 : ∀ σ L st r, gl_X11_swap_66 c66 σ L st = some r → zGW X 210 krI 66 σ L st r) : ∀ σ L st r, gl_X11_swap_156 (j_X11_swap_156 c66) σ L st = some r → zGW X 210 krI 156 σ L st r := by
  intro σ L st r h
  unfold gl_X11_swap_156 at h
  split at h
  · exact zin_ok (hy_X11_swap hX) bk_X11_swap (fun t f hf => by
    by_cases e66 : t = 66
    · rw [if_pos e66] at hf; subst e66; cases hf; exact h66
    rw [if_neg e66] at hf
    cases hf) ((e_X11_swap_156 _ _ _ _ _ _ _ _ _ _ _).symm.trans h)
  · cases h
noncomputable def j_X11_swap_140 (c66 : zH → Int32 → Int32 → Int32 → Int32 → Int32 → Int32 → Int32 → Option (zH × Int32)) (σ : zH) (x1 : Int32) (x2 : Int32) (x3 : Int32) (x4 : Int32) (x6 : Int32) (x7 : Int32) (x8 : Int32) (xs0 : Int32) : Option (zH × Int32) :=
  if x8 < x4 then
    (j_X11_swap_156 c66) σ x1 x2 x3 xs0 x6 x7 x8
  else
    (j_X11_swap_156 c66) σ x1 x2 x3 xs0 x6 x7 x4
theorem e_X11_swap_140 (c66 : zH → Int32 → Int32 → Int32 → Int32 → Int32 → Int32 → Int32 → Option (zH × Int32)) (σ : zH) (x1 : Int32) (x2 : Int32) (x3 : Int32) (x4 : Int32) (x6 : Int32) (x7 : Int32) (x8 : Int32) (xs0 : Int32) (y5 : zAV) : j_X11_swap_140 c66 σ x1 x2 x3 x4 x6 x7 x8 xs0 = zin cc_X11_swap (fun t => if t = 156 then some (gl_X11_swap_156 (j_X11_swap_156 c66)) else none) 0 krI b_X11_swap 140 σ [vR 11 0, vI x1, vI x2, vI x3, vI x4, y5, vI x6, vI x7, vI x8] [vI xs0] := by
  unfold j_X11_swap_140
  refine Eq.symm ((zin_b (es := q_X11_swap_140) rfl).trans ?_)
  refine (t_X11_swap_140 _ _ _ _ _ _ _ _ _ _ _).trans ?_
  refine x_icmp.trans (pif_ge ?_ ?_)
  · refine (zrun_b (es := q_X11_swap_154) rfl rfl).trans ?_
    refine (t_X11_swap_154 _ _ _ _ _ _ _ _ _ _).trans ?_
    refine x_cut.trans ?_
    exact (zrun_c rfl).trans (glr_X11_swap_156 _ _ _ _ _ _ _ _ _ _ _)
  · refine (t_X11_swap_149 _ _ _ _ _ _ _ _ _ _).trans ?_
    refine x_goto.trans ?_
    exact (zrun_c rfl).trans (glr_X11_swap_156 _ _ _ _ _ _ _ _ _ _ _)
theorem s_X11_swap_140 {X : zX} (hX : zHX X) {c66 : zH → Int32 → Int32 → Int32 → Int32 → Int32 → Int32 → Int32 → Option (zH × Int32)} (h66 : ∀ σ L st r, gl_X11_swap_66 c66 σ L st = some r → zGW X 210 krI 66 σ L st r) : ∀ σ L st r, gl_X11_swap_140 (j_X11_swap_140 c66) σ L st = some r → zGW X 210 krI 140 σ L st r := by
  intro σ L st r h
  unfold gl_X11_swap_140 at h
  split at h
  · exact zin_ok (hy_X11_swap hX) bk_X11_swap (fun t f hf => by
    by_cases e156 : t = 156
    · rw [if_pos e156] at hf; subst e156; cases hf; exact (s_X11_swap_156 hX h66)
    rw [if_neg e156] at hf
    cases hf) ((e_X11_swap_140 _ _ _ _ _ _ _ _ _ _ _).symm.trans h)
  · cases h
noncomputable def k_X11_swap_66 (c164 : zH → Int32 → Int32 → Int32 → Int32 → Int32 → Int32 → Option (zH × Int32)) : Nat → zH → Int32 → Int32 → Int32 → Int32 → Int32 → Int32 → Int32 → Option (zH × Int32)
  | 0, _, _, _, _, _, _, _, _ => none
  | n + 1, σ, x1, x2, x3, x4, x5, x6, x7 =>
    if x7 < (σ.1 42 0 0) then
      ix x6 12 fun j1 =>
      ix x7 12 fun j2 =>
      if (σ.1 45 0 j1) = (σ.1 45 0 j2) then
        (k_X11_swap_66 c164 n) σ x1 x2 x3 x4 x5 x6 (x7 + (1 : Int32))
      else
        (d_X11_swaps σ x6 x7).bind fun σ3 =>
        (d_X11_tries σ3 x1 (-1 : Int32) x2 (3 : Int32)).bind fun p4 =>
        (d_X11_swaps p4.1 x6 x7).bind fun σ5 =>
        if p4.2 < x4 then
          (j_X11_swap_140 (k_X11_swap_66 c164 n)) σ5 x1 x2 x3 x4 x6 x7 p4.2 (((12 : Int32) * x6) + x7)
        else
          (j_X11_swap_140 (k_X11_swap_66 c164 n)) σ5 x1 x2 x3 x4 x6 x7 p4.2 x5
    else
      c164 σ x1 x2 x3 x4 x5 x6
theorem e_X11_swap_66 (c164 : zH → Int32 → Int32 → Int32 → Int32 → Int32 → Int32 → Option (zH × Int32)) (n : Nat) (σ : zH) (x1 : Int32) (x2 : Int32) (x3 : Int32) (x4 : Int32) (x5 : Int32) (x6 : Int32) (x7 : Int32) (y8 : zAV) : k_X11_swap_66 c164 (n + 1) σ x1 x2 x3 x4 x5 x6 x7 = zin cc_X11_swap (fun t => if t = 66 then some (gl_X11_swap_66 (k_X11_swap_66 c164 n)) else if t = 140 then some (gl_X11_swap_140 (j_X11_swap_140 (k_X11_swap_66 c164 n))) else if t = 164 then some (gl_X11_swap_164 c164) else none) 0 krI b_X11_swap 66 σ [vR 11 0, vI x1, vI x2, vI x3, vI x4, vI x5, vI x6, vI x7, y8] [] := by
  rw [k_X11_swap_66]
  refine Eq.symm ((zin_b (es := q_X11_swap_66) rfl).trans ?_)
  refine (t_X11_swap_66 _ _ _ _ _ _ _ _ _ _ _).trans ?_
  refine ((x_iald (N := 11) rfl rfl).trans (ix_l 0 (by decide +kernel))).trans ?_
  refine x_icmp.trans (pif_ge ?_ ?_)
  · exact (zrun_c rfl).trans (glr_X11_swap_164 _ _ _ _ _ _ _ _ _ _)
  · refine (t_X11_swap_77 _ _ _ _ _ _ _ _ _ _).trans ?_
    refine (x_iald (N := 12) rfl rfl).trans (pix fun _ => ?_)
    refine (t_X11_swap_84 _ _ _ _ _ _ _ _ _ _ _).trans ?_
    refine (x_iald (N := 12) rfl rfl).trans (pix fun _ => ?_)
    refine x_icmp.trans (pif_eq ?_ ?_)
    · refine (zrun_b (es := q_X11_swap_158) rfl rfl).trans ?_
      refine (t_X11_swap_158 _ _ _ _ _ _ _ _ _ _ _).trans ?_
      refine x_goto.trans ?_
      exact (zrun_c rfl).trans (glr_X11_swap_66 _ _ _ _ _ _ _ _ _ _)
    · refine (t_X11_swap_94 _ _ _ _ _ _ _ _ _ _).trans ?_
      refine (x_callV rfl rfl rfl rfl).trans ((cl_X11_swap_X11_swaps _ _ _).trans ((gr_X11_swaps _ _ _ _).trans (pbd fun _ => ?_)))
      refine (t_X11_swap_102 _ _ _ _ _ _ _ _ _ _ _ _).trans ?_
      refine (x_callV rfl rfl rfl rfl).trans ((cl_X11_swap_X11_tries _ _ _).trans ((gr_X11_tries _ _ _ _ _ _).trans (pbd fun _ => ?_)))
      refine (t_X11_swap_110 _ _ _ _ _ _ _ _ _ _ _).trans ?_
      refine (x_callV rfl rfl rfl rfl).trans ((cl_X11_swap_X11_swaps _ _ _).trans ((gr_X11_swaps _ _ _ _).trans (pbd fun _ => ?_)))
      refine (t_X11_swap_120 _ _ _ _ _ _ _ _ _ _).trans ?_
      refine x_icmp.trans (pif_ge ?_ ?_)
      · refine (zrun_b (es := q_X11_swap_138) rfl rfl).trans ?_
        refine (t_X11_swap_138 _ _ _ _ _ _ _ _ _ _).trans ?_
        refine x_cut.trans ?_
        exact (zrun_c rfl).trans (glr_X11_swap_140 _ _ _ _ _ _ _ _ _ _ _)
      · refine (t_X11_swap_127 _ _ _ _ _ _ _ _ _ _ _).trans ?_
        refine x_goto.trans ?_
        exact (zrun_c rfl).trans (glr_X11_swap_140 _ _ _ _ _ _ _ _ _ _ _)
theorem s_X11_swap_66 {X : zX} (hX : zHX X) {c164 : zH → Int32 → Int32 → Int32 → Int32 → Int32 → Int32 → Option (zH × Int32)} (h164 : ∀ σ L st r, gl_X11_swap_164 c164 σ L st = some r → zGW X 210 krI 164 σ L st r) : ∀ n σ L st r, gl_X11_swap_66 (k_X11_swap_66 c164 n) σ L st = some r → zGW X 210 krI 66 σ L st r := by
  intro n
  induction n with
  | zero =>
    intro σ L st r h
    unfold gl_X11_swap_66 at h
    split at h <;> cases h
  | succ n ih =>
    intro σ L st r h
    unfold gl_X11_swap_66 at h
    split at h
    · exact zin_ok (hy_X11_swap hX) bk_X11_swap (fun t f hf => by
      by_cases e66 : t = 66
      · rw [if_pos e66] at hf; subst e66; cases hf; exact ih
      rw [if_neg e66] at hf
      by_cases e140 : t = 140
      · rw [if_pos e140] at hf; subst e140; cases hf; exact (s_X11_swap_140 hX ih)
      rw [if_neg e140] at hf
      by_cases e164 : t = 164
      · rw [if_pos e164] at hf; subst e164; cases hf; exact h164
      rw [if_neg e164] at hf
      cases hf) ((e_X11_swap_66 _ _ _ _ _ _ _ _ _ _ _).symm.trans h)
    · cases h
noncomputable def j_X11_swap_164 (c49 : zH → Int32 → Int32 → Int32 → Int32 → Int32 → Int32 → Option (zH × Int32)) (σ : zH) (x1 : Int32) (x2 : Int32) (x3 : Int32) (x4 : Int32) (x5 : Int32) (x6 : Int32) : Option (zH × Int32) :=
  c49 σ x1 x2 x3 x4 x5 (x6 + (1 : Int32))
theorem e_X11_swap_164 (c49 : zH → Int32 → Int32 → Int32 → Int32 → Int32 → Int32 → Option (zH × Int32)) (σ : zH) (x1 : Int32) (x2 : Int32) (x3 : Int32) (x4 : Int32) (x5 : Int32) (x6 : Int32) (y7 : zAV) (y8 : zAV) : j_X11_swap_164 c49 σ x1 x2 x3 x4 x5 x6 = zin cc_X11_swap (fun t => if t = 49 then some (gl_X11_swap_49 c49) else none) 0 krI b_X11_swap 164 σ [vR 11 0, vI x1, vI x2, vI x3, vI x4, vI x5, vI x6, y7, y8] [] := by
  unfold j_X11_swap_164
  refine Eq.symm ((zin_b (es := q_X11_swap_164) rfl).trans ?_)
  refine (t_X11_swap_164 _ _ _ _ _ _ _ _ _ _ _).trans ?_
  refine x_goto.trans ?_
  exact (zrun_c rfl).trans (glr_X11_swap_49 _ _ _ _ _ _ _ _ _ _)
theorem s_X11_swap_164 {X : zX} (hX : zHX X) {c49 : zH → Int32 → Int32 → Int32 → Int32 → Int32 → Int32 → Option (zH × Int32)} (h49 : ∀ σ L st r, gl_X11_swap_49 c49 σ L st = some r → zGW X 210 krI 49 σ L st r) : ∀ σ L st r, gl_X11_swap_164 (j_X11_swap_164 c49) σ L st = some r → zGW X 210 krI 164 σ L st r := by
  intro σ L st r h
  unfold gl_X11_swap_164 at h
  split at h
  · exact zin_ok (hy_X11_swap hX) bk_X11_swap (fun t f hf => by
    by_cases e49 : t = 49
    · rw [if_pos e49] at hf; subst e49; cases hf; exact h49
    rw [if_neg e49] at hf
    cases hf) ((e_X11_swap_164 _ _ _ _ _ _ _ _ _ _).symm.trans h)
  · cases h
noncomputable def k_X11_swap_49 (c170 : zH → Int32 → Int32 → Int32 → Option (zH × Int32)) : Nat → zH → Int32 → Int32 → Int32 → Int32 → Int32 → Int32 → Option (zH × Int32)
  | 0, _, _, _, _, _, _, _ => none
  | n + 1, σ, x1, x2, x3, x4, x5, x6 =>
    if x6 < (σ.1 42 0 0) then
      (k_X11_swap_66 (j_X11_swap_164 (k_X11_swap_49 c170 n)) zN) σ x1 x2 x3 x4 x5 x6 (x6 + (1 : Int32))
    else
      c170 σ x3 x4 x5
theorem e_X11_swap_49 (c170 : zH → Int32 → Int32 → Int32 → Option (zH × Int32)) (n : Nat) (σ : zH) (x1 : Int32) (x2 : Int32) (x3 : Int32) (x4 : Int32) (x5 : Int32) (x6 : Int32) (y7 : zAV) (y8 : zAV) : k_X11_swap_49 c170 (n + 1) σ x1 x2 x3 x4 x5 x6 = zin cc_X11_swap (fun t => if t = 66 then some (gl_X11_swap_66 (k_X11_swap_66 (j_X11_swap_164 (k_X11_swap_49 c170 n)) zN)) else if t = 170 then some (gl_X11_swap_170 c170) else none) 0 krI b_X11_swap 49 σ [vR 11 0, vI x1, vI x2, vI x3, vI x4, vI x5, vI x6, y7, y8] [] := by
  rw [k_X11_swap_49]
  refine Eq.symm ((zin_b (es := q_X11_swap_49) rfl).trans ?_)
  refine (t_X11_swap_49 _ _ _ _ _ _ _ _ _ _ _).trans ?_
  refine ((x_iald (N := 11) rfl rfl).trans (ix_l 0 (by decide +kernel))).trans ?_
  refine x_icmp.trans (pif_ge ?_ ?_)
  · exact (zrun_c rfl).trans (glr_X11_swap_170 _ _ _ _ _ _ _ _ _ _ _)
  · refine (t_X11_swap_60 _ _ _ _ _ _ _ _ _ _ _).trans ?_
    refine x_cut.trans ?_
    exact (zrun_c rfl).trans (glr_X11_swap_66 _ _ _ _ _ _ _ _ _ _)
theorem s_X11_swap_49 {X : zX} (hX : zHX X) {c170 : zH → Int32 → Int32 → Int32 → Option (zH × Int32)} (h170 : ∀ σ L st r, gl_X11_swap_170 c170 σ L st = some r → zGW X 210 krI 170 σ L st r) : ∀ n σ L st r, gl_X11_swap_49 (k_X11_swap_49 c170 n) σ L st = some r → zGW X 210 krI 49 σ L st r := by
  intro n
  induction n with
  | zero =>
    intro σ L st r h
    unfold gl_X11_swap_49 at h
    split at h <;> cases h
  | succ n ih =>
    intro σ L st r h
    unfold gl_X11_swap_49 at h
    split at h
    · exact zin_ok (hy_X11_swap hX) bk_X11_swap (fun t f hf => by
      by_cases e66 : t = 66
      · rw [if_pos e66] at hf; subst e66; cases hf; exact ((fun σ L st r h => s_X11_swap_66 hX (s_X11_swap_164 hX ih) zN σ L st r h))
      rw [if_neg e66] at hf
      by_cases e170 : t = 170
      · rw [if_pos e170] at hf; subst e170; cases hf; exact h170
      rw [if_neg e170] at hf
      cases hf) ((e_X11_swap_49 _ _ _ _ _ _ _ _ _ _ _).symm.trans h)
    · cases h
noncomputable def j_X11_swap_170  (σ : zH) (x3 : Int32) (x4 : Int32) (x5 : Int32) : Option (zH × Int32) :=
  if x5 = (-2 : Int32) then
    some (σ, x5)
  else
    if x3 = 0 then
      some (σ, x5)
    else
      some (σ, x4)
theorem e_X11_swap_170  (σ : zH) (x3 : Int32) (x4 : Int32) (x5 : Int32) (y0 : zAV) (y1 : zAV) (y2 : zAV) (y6 : zAV) (y7 : zAV) (y8 : zAV) : j_X11_swap_170 σ x3 x4 x5 = zin cc_X11_swap (fun t => none) 0 krI b_X11_swap 170 σ [y0, y1, y2, vI x3, vI x4, vI x5, y6, y7, y8] [] := by
  unfold j_X11_swap_170
  refine Eq.symm ((zin_b (es := q_X11_swap_170) rfl).trans ?_)
  refine (t_X11_swap_170 _ _ _ _ _ _ _ _ _ _ _ _).trans ?_
  refine x_icmp.trans (pif_eq ?_ ?_)
  · refine (zrun_b (es := q_X11_swap_181) rfl rfl).trans ?_
    refine (t_X11_swap_181 _ _ _ _ _ _ _ _ _ _ _).trans ?_
    refine x_goto.trans ?_
    refine (zrun_b (es := q_X11_swap_188) rfl rfl).trans ?_
    exact x_iret
  · refine (t_X11_swap_177 _ _ _ _ _ _ _ _ _ _ _).trans ?_
    refine x_if.trans (pif_ne ?_ ?_)
    · refine (zrun_b (es := q_X11_swap_186) rfl rfl).trans ?_
      refine (t_X11_swap_186 _ _ _ _ _ _ _ _ _ _ _).trans ?_
      exact x_iret
    · refine (t_X11_swap_181 _ _ _ _ _ _ _ _ _ _ _).trans ?_
      refine x_goto.trans ?_
      refine (zrun_b (es := q_X11_swap_188) rfl rfl).trans ?_
      exact x_iret
theorem s_X11_swap_170 {X : zX} (hX : zHX X)   : ∀ σ L st r, gl_X11_swap_170 j_X11_swap_170 σ L st = some r → zGW X 210 krI 170 σ L st r := by
  intro σ L st r h
  unfold gl_X11_swap_170 at h
  split at h
  · exact zin_ok (hy_X11_swap hX) bk_X11_swap (fun t f hf => by
    cases hf) ((e_X11_swap_170 _ _ _ _ _ _ _ _ _ _).symm.trans h)
  · cases h
noncomputable def d_X11_swap (σ : zH) (xa1 : Int32) (xa2 : Int32) (xa3 : Int32) : Option (zH × Int32) :=
  (d_X11_isLaw σ xa1).bind fun p1 =>
  if p1.2 = 0 then
    some (p1.1, (-1 : Int32))
  else
    (d_X11_in p1.1 xa2.toInt64 (1 : Int64) (192 : Int64)).bind fun p2 =>
    if p2.2 = 0 then
      some (p2.1, (-1 : Int32))
    else
      (d_X11_in p2.1 xa3.toInt64 (0 : Int64) (1 : Int64)).bind fun p3 =>
      if p3.2 = 0 then
        some (p3.1, (-1 : Int32))
      else
        (d_X11_tries p3.1 xa1 (-1 : Int32) xa2 (3 : Int32)).bind fun p4 =>
        (k_X11_swap_49 j_X11_swap_170 zN) p4.1 xa1 xa2 xa3 p4.2 (-2 : Int32) (0 : Int32)
theorem e_X11_swap (σ : zH) (xa1 : Int32) (xa2 : Int32) (xa3 : Int32) : d_X11_swap σ xa1 xa2 xa3 = zin cc_X11_swap (fun t => if t = 49 then some (gl_X11_swap_49 (k_X11_swap_49 j_X11_swap_170 zN)) else none) 0 krI b_X11_swap 0 σ [vR 11 0, vI xa1, vI xa2, vI xa3, vU, vU, vU, vU, vU] [] := by
  unfold d_X11_swap
  refine Eq.symm ((zin_b (es := q_X11_swap_0) rfl).trans ?_)
  refine (t_X11_swap_0 _ _ _ _ _ _ _ _ _ _).trans ?_
  refine (x_callV rfl rfl rfl rfl).trans ((cl_X11_swap_X11_isLaw _ _ _).trans ((gr_X11_isLaw _ _ _).trans (pbd fun _ => ?_)))
  refine x_if.trans (pif_eq ?_ ?_)
  · refine (zrun_b (es := q_X11_swap_30) rfl rfl).trans ?_
    refine (t_X11_swap_30 _ _ _ _ _ _ _ _ _ _ _ _).trans ?_
    exact x_iret
  · refine (t_X11_swap_8 _ _ _ _ _ _ _ _ _ _ _ _).trans ?_
    refine (x_callS rfl rfl rfl rfl).trans ((cl_X11_swap_X11_in _ _ _).trans ((gr_X11_in _ _ _ _ _).trans (pbd fun _ => ?_)))
    refine x_if.trans (pif_eq ?_ ?_)
    · refine (zrun_b (es := q_X11_swap_30) rfl rfl).trans ?_
      refine (t_X11_swap_30 _ _ _ _ _ _ _ _ _ _ _ _).trans ?_
      exact x_iret
    · refine (t_X11_swap_20 _ _ _ _ _ _ _ _ _ _ _ _).trans ?_
      refine (x_callS rfl rfl rfl rfl).trans ((cl_X11_swap_X11_in _ _ _).trans ((gr_X11_in _ _ _ _ _).trans (pbd fun _ => ?_)))
      refine x_if.trans (pif_ne ?_ ?_)
      · refine (zrun_b (es := q_X11_swap_32) rfl rfl).trans ?_
        refine (t_X11_swap_32 _ _ _ _ _ _ _ _ _ _ _ _).trans ?_
        refine (x_callV rfl rfl rfl rfl).trans ((cl_X11_swap_X11_tries _ _ _).trans ((gr_X11_tries _ _ _ _ _ _).trans (pbd fun _ => ?_)))
        refine (t_X11_swap_40 _ _ _ _ _ _ _ _ _ _ _ _ _).trans ?_
        refine x_cut.trans ?_
        exact (zrun_c rfl).trans (glr_X11_swap_49 _ _ _ _ _ _ _ _ _ _)
      · refine (t_X11_swap_30 _ _ _ _ _ _ _ _ _ _ _ _).trans ?_
        exact x_iret
noncomputable def g_X11_swap {ρ : Type} (σ : zH) (av : List zAV) (q : zH → zAV → Option ρ) : Option ρ := match av with
  | [.inr (.inr (.inl (11, 0))), .inl xa1, .inl xa2, .inl xa3] => (d_X11_swap σ xa1 xa2 xa3).bind fun p => q p.1 (vI p.2)
  | _ => none
theorem gr_X11_swap {ρ : Type} (σ : zH) (xa1 : Int32) (xa2 : Int32) (xa3 : Int32) (q : zH → zAV → Option ρ) : g_X11_swap σ [vR 11 0, vI xa1, vI xa2, vI xa3] q = (d_X11_swap σ xa1 xa2 xa3).bind fun p => q p.1 (vI p.2) := rfl
theorem c_X11_swap {ρ : Type} {X : zX} (hX : zHX X) {σ : zH} {av : List zAV} {q : zH → zAV → Option ρ} {r : ρ} (h : g_X11_swap σ av q = some r) (hv : ∀ a ∈ av, zval X a) : zcon X 210 σ av q r := by
  unfold g_X11_swap at h
  split at h
  · exact zcon_I (n := 210) (ml := 9) (rc := 0) (st := 0) (kd := 11) (np := 3) (by decide +kernel) (by decide) ⟨_, _, rfl, rfl⟩ (Nat.le_of_ble_eq_true rfl) hv h (fun y h1 => (zin_ok (hy_X11_swap hX) bk_X11_swap (fun t f hf => by
      by_cases e49 : t = 49
      · rw [if_pos e49] at hf; subst e49; cases hf; exact ((fun σ L st r h => s_X11_swap_49 hX (s_X11_swap_170 hX) zN σ L st r h))
      rw [if_neg e49] at hf
      cases hf) ((e_X11_swap _ _ _ _).symm.trans h1)))
  · cases h
/-! SleepWavesModel.strike(III)I -/
def q_X11_strike_31 : List zEnt := zE 31 .ireturn 1 :: []
def q_X11_strike_30 : List zEnt := zEk 30 (.iconst (-1)) 1 (-1) :: q_X11_strike_31
def q_X11_strike_27 : List zEnt := zEa 27 (.ifCond .ne 5) 3 32 :: q_X11_strike_30
def q_X11_strike_24 : List zEnt := zEc 24 (.invokestatic 173) 3 125 3 129 0 :: q_X11_strike_27
def q_X11_strike_20 : List zEnt := zE 20 (.iload_n 3) 1 :: zE 21 .i2l 1 :: (22, (.lconst 0), 1, (0, 0, 0, 0), (0, 0, 0), 0, 0, []) :: (23, (.lconst 1), 1, (0, 0, 0, 0), (0, 0, 0), 0, 1, []) :: q_X11_strike_24
def q_X11_strike_17 : List zEnt := zEa 17 (.ifCond .eq 13) 3 30 :: q_X11_strike_20
def q_X11_strike_14 : List zEnt := zEc 14 (.invokestatic 173) 3 125 3 129 0 :: q_X11_strike_17
def q_X11_strike_8 : List zEnt := zE 8 (.iload_n 2) 1 :: zE 9 .i2l 1 :: (10, (.lconst 1), 1, (0, 0, 0, 0), (0, 0, 0), 0, 1, []) :: (11, (.ldc2_w 421), 3, (0, 0, 1488, 0), (0, 0, 0), 0, 96, []) :: q_X11_strike_14
def q_X11_strike_5 : List zEnt := zEa 5 (.ifCond .eq 25) 3 30 :: q_X11_strike_8
def q_X11_strike_2 : List zEnt := zEc 2 (.invokevirtual 418) 3 164 2 145 0 :: q_X11_strike_5
def q_X11_strike_0 : List zEnt := zE 0 (.aload_n 0) 1 :: zE 1 (.iload_n 1) 1 :: q_X11_strike_2
def q_X11_strike_40 : List zEnt := zE 40 (.istore 4) 2 :: zEk 42 (.bipush (-2)) 2 (-2) :: zE 44 (.istore 5) 2 :: zEk 46 (.iconst 0) 1 0 :: zE 47 (.istore 6) 2 :: [zE 49 .nop 0]
def q_X11_strike_37 : List zEnt := zEc 37 (.invokevirtual 444) 3 189 5 168 0 :: q_X11_strike_40
def q_X11_strike_32 : List zEnt := zE 32 (.aload_n 0) 1 :: zE 33 (.iload_n 1) 1 :: zEk 34 (.iconst (-1)) 1 (-1) :: zE 35 (.iload_n 2) 1 :: zEk 36 (.iconst 1) 1 1 :: q_X11_strike_37
def q_X11_strike_75 : List zEnt := zEa 75 (.goto 5) 3 80 :: []
def q_X11_strike_73 : List zEnt := zE 73 (.iload 6) 2 :: q_X11_strike_75
def q_X11_strike_70 : List zEnt := zEa 70 (.if_icmp .ge 8) 3 78 :: q_X11_strike_73
def q_X11_strike_64 : List zEnt := zE 64 (.istore 7) 2 :: zE 66 (.iload 7) 2 :: zE 68 (.iload 4) 2 :: q_X11_strike_70
def q_X11_strike_61 : List zEnt := zEc 61 (.invokevirtual 444) 3 189 5 168 0 :: q_X11_strike_64
def q_X11_strike_55 : List zEnt := zE 55 (.aload_n 0) 1 :: zE 56 (.iload_n 1) 1 :: zE 57 (.iload 6) 2 :: zE 59 (.iload_n 2) 1 :: zEk 60 (.iconst 1) 1 1 :: q_X11_strike_61
def q_X11_strike_52 : List zEnt := zEa 52 (.if_icmp .ge 52) 3 104 :: q_X11_strike_55
def q_X11_strike_49 : List zEnt := zE 49 (.iload 6) 2 :: zE 51 (.iload_n 2) 1 :: q_X11_strike_52
def q_X11_strike_78 : List zEnt := zE 78 (.iload 5) 2 :: [zE 80 .nop 0]
def q_X11_strike_91 : List zEnt := zEa 91 (.goto 5) 3 96 :: []
def q_X11_strike_89 : List zEnt := zE 89 (.iload 7) 2 :: q_X11_strike_91
def q_X11_strike_86 : List zEnt := zEa 86 (.if_icmp .ge 8) 3 94 :: q_X11_strike_89
def q_X11_strike_80 : List zEnt := zE 80 (.istore 5) 2 :: zE 82 (.iload 7) 2 :: zE 84 (.iload 4) 2 :: q_X11_strike_86
def q_X11_strike_94 : List zEnt := zE 94 (.iload 4) 2 :: [zE 96 .nop 0]
def q_X11_strike_101 : List zEnt := zEa 101 (.goto (-52)) 3 49 :: []
def q_X11_strike_96 : List zEnt := zE 96 (.istore 4) 2 :: zEk 98 (.iinc 6 1) 3 1 :: q_X11_strike_101
def q_X11_strike_117 : List zEnt := zEa 117 (.goto 5) 3 122 :: []
def q_X11_strike_115 : List zEnt := zE 115 (.iload 5) 2 :: q_X11_strike_117
def q_X11_strike_112 : List zEnt := zEa 112 (.ifCond .ne 8) 3 120 :: q_X11_strike_115
def q_X11_strike_111 : List zEnt := zE 111 (.iload_n 3) 1 :: q_X11_strike_112
def q_X11_strike_108 : List zEnt := zEa 108 (.if_icmp .eq 7) 3 115 :: q_X11_strike_111
def q_X11_strike_104 : List zEnt := zE 104 (.iload 5) 2 :: zEk 106 (.bipush (-2)) 2 (-2) :: q_X11_strike_108
def q_X11_strike_122 : List zEnt := zE 122 .ireturn 1 :: []
def q_X11_strike_120 : List zEnt := zE 120 (.iload 4) 2 :: q_X11_strike_122
def b_X11_strike : List (Nat × List zEnt) := [(0, q_X11_strike_0), (30, q_X11_strike_30), (32, q_X11_strike_32), (49, q_X11_strike_49), (78, q_X11_strike_78), (80, q_X11_strike_80), (94, q_X11_strike_94), (96, q_X11_strike_96), (104, q_X11_strike_104), (115, q_X11_strike_115), (120, q_X11_strike_120), (122, q_X11_strike_122)]
theorem bk_X11_strike : zchB 211 b_X11_strike = true := by decide +kernel
noncomputable def cc_X11_strike {ρ : Type} : Nat → zH → List zAV → (zH → zAV → Option ρ) → Option ρ := fun n σ av q => if n = 164 then g_X11_isLaw σ av q else if n = 125 then g_X11_in σ av q else if n = 189 then g_X11_tries σ av q else none
theorem cs_X11_strike {ρ : Type} {X : zX} (hX : zHX X) : zCS X (cc_X11_strike (ρ := ρ)) := by
  intro n σ av q r h hv
  unfold cc_X11_strike at h
  by_cases e_X11_isLaw : n = 164
  · rw [if_pos e_X11_isLaw] at h
    subst e_X11_isLaw
    exact c_X11_isLaw hX h hv
  rw [if_neg e_X11_isLaw] at h
  by_cases e_X11_in : n = 125
  · rw [if_pos e_X11_in] at h
    subst e_X11_in
    exact c_X11_in hX h hv
  rw [if_neg e_X11_in] at h
  by_cases e_X11_tries : n = 189
  · rw [if_pos e_X11_tries] at h
    subst e_X11_tries
    exact c_X11_tries hX h hv
  rw [if_neg e_X11_tries] at h
  cases h
theorem cl_X11_strike_X11_isLaw {ρ : Type} (σ : zH) (av : List zAV) (q : zH → zAV → Option ρ) : cc_X11_strike 164 σ av q = g_X11_isLaw σ av q := rfl
theorem cl_X11_strike_X11_in {ρ : Type} (σ : zH) (av : List zAV) (q : zH → zAV → Option ρ) : cc_X11_strike 125 σ av q = g_X11_in σ av q := rfl
theorem cl_X11_strike_X11_tries {ρ : Type} (σ : zH) (av : List zAV) (q : zH → zAV → Option ρ) : cc_X11_strike 189 σ av q = g_X11_tries σ av q := rfl
theorem hy_X11_strike {ρ : Type} {X : zX} (hX : zHX X) : zHY X 211 (cc_X11_strike (ρ := ρ)) := zHX.hY hX (cs_X11_strike hX) (zmok_all 211 (by decide))
def gl_X11_strike_49 {ρ : Type} (f : zH → Int32 → Int32 → Int32 → Int32 → Int32 → Int32 → Option ρ) (σ : zH) (L st : List zAV) : Option ρ := match L, st with
  | [.inr (.inr (.inl (11, 0))), .inl x1, .inl x2, .inl x3, .inl x4, .inl x5, .inl x6, _], [] => f σ x1 x2 x3 x4 x5 x6
  | _, _ => none
def gl_X11_strike_80 {ρ : Type} (f : zH → Int32 → Int32 → Int32 → Int32 → Int32 → Int32 → Int32 → Option ρ) (σ : zH) (L st : List zAV) : Option ρ := match L, st with
  | [.inr (.inr (.inl (11, 0))), .inl x1, .inl x2, .inl x3, .inl x4, _, .inl x6, .inl x7], [.inl xs0] => f σ x1 x2 x3 x4 x6 x7 xs0
  | _, _ => none
def gl_X11_strike_96 {ρ : Type} (f : zH → Int32 → Int32 → Int32 → Int32 → Int32 → Int32 → Option ρ) (σ : zH) (L st : List zAV) : Option ρ := match L, st with
  | [.inr (.inr (.inl (11, 0))), .inl x1, .inl x2, .inl x3, _, .inl x5, .inl x6, _], [.inl xs0] => f σ x1 x2 x3 x5 x6 xs0
  | _, _ => none
def gl_X11_strike_104 {ρ : Type} (f : zH → Int32 → Int32 → Int32 → Option ρ) (σ : zH) (L st : List zAV) : Option ρ := match L, st with
  | [_, _, _, .inl x3, .inl x4, .inl x5, _, _], [] => f σ x3 x4 x5
  | _, _ => none
theorem glr_X11_strike_49 {ρ : Type} (f : zH → Int32 → Int32 → Int32 → Int32 → Int32 → Int32 → Option ρ) (σ : zH) (x1 : Int32) (x2 : Int32) (x3 : Int32) (x4 : Int32) (x5 : Int32) (x6 : Int32) (y7 : zAV) : gl_X11_strike_49 f σ [vR 11 0, vI x1, vI x2, vI x3, vI x4, vI x5, vI x6, y7] [] = f σ x1 x2 x3 x4 x5 x6 := rfl
theorem glr_X11_strike_80 {ρ : Type} (f : zH → Int32 → Int32 → Int32 → Int32 → Int32 → Int32 → Int32 → Option ρ) (σ : zH) (x1 : Int32) (x2 : Int32) (x3 : Int32) (x4 : Int32) (x6 : Int32) (x7 : Int32) (xs0 : Int32) (y5 : zAV) : gl_X11_strike_80 f σ [vR 11 0, vI x1, vI x2, vI x3, vI x4, y5, vI x6, vI x7] [vI xs0] = f σ x1 x2 x3 x4 x6 x7 xs0 := rfl
theorem glr_X11_strike_96 {ρ : Type} (f : zH → Int32 → Int32 → Int32 → Int32 → Int32 → Int32 → Option ρ) (σ : zH) (x1 : Int32) (x2 : Int32) (x3 : Int32) (x5 : Int32) (x6 : Int32) (xs0 : Int32) (y4 : zAV) (y7 : zAV) : gl_X11_strike_96 f σ [vR 11 0, vI x1, vI x2, vI x3, y4, vI x5, vI x6, y7] [vI xs0] = f σ x1 x2 x3 x5 x6 xs0 := rfl
theorem glr_X11_strike_104 {ρ : Type} (f : zH → Int32 → Int32 → Int32 → Option ρ) (σ : zH) (x3 : Int32) (x4 : Int32) (x5 : Int32) (y0 : zAV) (y1 : zAV) (y2 : zAV) (y6 : zAV) (y7 : zAV) : gl_X11_strike_104 f σ [y0, y1, y2, vI x3, vI x4, vI x5, y6, y7] [] = f σ x3 x4 x5 := rfl
theorem t_X11_strike_0 {G : Nat → zH → List zAV → List zAV → Option (zH × Int32)} (es : List zEnt) (σ : zH) (x1 : Int32) (x2 : Int32) (x3 : Int32) (y4 : zAV) (y5 : zAV) (y6 : zAV) (y7 : zAV)  : zev cc_X11_strike G 0 krI (zE 0 (.aload_n 0) 1 :: zE 1 (.iload_n 1) 1 :: es) σ [vR 11 0, vI x1, vI x2, vI x3, y4, y5, y6, y7] [] = zev cc_X11_strike G 0 krI es σ [vR 11 0, vI x1, vI x2, vI x3, y4, y5, y6, y7] [vI x1, vR 11 0] := rfl
theorem t_X11_strike_8 {G : Nat → zH → List zAV → List zAV → Option (zH × Int32)} (es : List zEnt) (σ : zH) (x1 : Int32) (x2 : Int32) (x3 : Int32) (y4 : zAV) (y5 : zAV) (y6 : zAV) (y7 : zAV) (w10 : Int64) (w11 : Int64) : zev cc_X11_strike G 0 krI (zE 8 (.iload_n 2) 1 :: zE 9 .i2l 1 :: (10, (.lconst 1), 1, (0, 0, 0, 0), (0, 0, 0), 0, w10, []) :: (11, (.ldc2_w 421), 3, (0, 0, 1488, 0), (0, 0, 0), 0, w11, []) :: es) σ [vR 11 0, vI x1, vI x2, vI x3, y4, y5, y6, y7] [] = zev cc_X11_strike G 0 krI es σ [vR 11 0, vI x1, vI x2, vI x3, y4, y5, y6, y7] [vL w11, vL w10, vL x2.toInt64] := rfl
theorem t_X11_strike_20 {G : Nat → zH → List zAV → List zAV → Option (zH × Int32)} (es : List zEnt) (σ : zH) (x1 : Int32) (x2 : Int32) (x3 : Int32) (y4 : zAV) (y5 : zAV) (y6 : zAV) (y7 : zAV) (w22 : Int64) (w23 : Int64) : zev cc_X11_strike G 0 krI (zE 20 (.iload_n 3) 1 :: zE 21 .i2l 1 :: (22, (.lconst 0), 1, (0, 0, 0, 0), (0, 0, 0), 0, w22, []) :: (23, (.lconst 1), 1, (0, 0, 0, 0), (0, 0, 0), 0, w23, []) :: es) σ [vR 11 0, vI x1, vI x2, vI x3, y4, y5, y6, y7] [] = zev cc_X11_strike G 0 krI es σ [vR 11 0, vI x1, vI x2, vI x3, y4, y5, y6, y7] [vL w23, vL w22, vL x3.toInt64] := rfl
theorem t_X11_strike_30 {G : Nat → zH → List zAV → List zAV → Option (zH × Int32)} (es : List zEnt) (σ : zH)  (y0 : zAV) (y1 : zAV) (y2 : zAV) (y3 : zAV) (y4 : zAV) (y5 : zAV) (y6 : zAV) (y7 : zAV) (w30 : Int32) : zev cc_X11_strike G 0 krI (zEk 30 (.iconst (-1)) 1 w30 :: es) σ [y0, y1, y2, y3, y4, y5, y6, y7] [] = zev cc_X11_strike G 0 krI es σ [y0, y1, y2, y3, y4, y5, y6, y7] [vI w30] := rfl
theorem t_X11_strike_32 {G : Nat → zH → List zAV → List zAV → Option (zH × Int32)} (es : List zEnt) (σ : zH) (x1 : Int32) (x2 : Int32) (x3 : Int32) (y4 : zAV) (y5 : zAV) (y6 : zAV) (y7 : zAV) (w34 : Int32) (w36 : Int32) : zev cc_X11_strike G 0 krI (zE 32 (.aload_n 0) 1 :: zE 33 (.iload_n 1) 1 :: zEk 34 (.iconst (-1)) 1 w34 :: zE 35 (.iload_n 2) 1 :: zEk 36 (.iconst 1) 1 w36 :: es) σ [vR 11 0, vI x1, vI x2, vI x3, y4, y5, y6, y7] [] = zev cc_X11_strike G 0 krI es σ [vR 11 0, vI x1, vI x2, vI x3, y4, y5, y6, y7] [vI w36, vI x2, vI w34, vI x1, vR 11 0] := rfl
theorem t_X11_strike_40 {G : Nat → zH → List zAV → List zAV → Option (zH × Int32)} (es : List zEnt) (σ : zH) (x1 : Int32) (x2 : Int32) (x3 : Int32) (xs0 : Int32) (y4 : zAV) (y5 : zAV) (y6 : zAV) (y7 : zAV) (w42 : Int32) (w46 : Int32) : zev cc_X11_strike G 0 krI (zE 40 (.istore 4) 2 :: zEk 42 (.bipush (-2)) 2 w42 :: zE 44 (.istore 5) 2 :: zEk 46 (.iconst 0) 1 w46 :: zE 47 (.istore 6) 2 :: es) σ [vR 11 0, vI x1, vI x2, vI x3, y4, y5, y6, y7] [vI xs0] = zev cc_X11_strike G 0 krI es σ [vR 11 0, vI x1, vI x2, vI x3, vI xs0, vI w42, vI w46, y7] [] := rfl
theorem t_X11_strike_49 {G : Nat → zH → List zAV → List zAV → Option (zH × Int32)} (es : List zEnt) (σ : zH) (x1 : Int32) (x2 : Int32) (x3 : Int32) (x4 : Int32) (x5 : Int32) (x6 : Int32) (y7 : zAV)  : zev cc_X11_strike G 0 krI (zE 49 (.iload 6) 2 :: zE 51 (.iload_n 2) 1 :: es) σ [vR 11 0, vI x1, vI x2, vI x3, vI x4, vI x5, vI x6, y7] [] = zev cc_X11_strike G 0 krI es σ [vR 11 0, vI x1, vI x2, vI x3, vI x4, vI x5, vI x6, y7] [vI x2, vI x6] := rfl
theorem t_X11_strike_55 {G : Nat → zH → List zAV → List zAV → Option (zH × Int32)} (es : List zEnt) (σ : zH) (x1 : Int32) (x2 : Int32) (x3 : Int32) (x4 : Int32) (x5 : Int32) (x6 : Int32) (y7 : zAV) (w60 : Int32) : zev cc_X11_strike G 0 krI (zE 55 (.aload_n 0) 1 :: zE 56 (.iload_n 1) 1 :: zE 57 (.iload 6) 2 :: zE 59 (.iload_n 2) 1 :: zEk 60 (.iconst 1) 1 w60 :: es) σ [vR 11 0, vI x1, vI x2, vI x3, vI x4, vI x5, vI x6, y7] [] = zev cc_X11_strike G 0 krI es σ [vR 11 0, vI x1, vI x2, vI x3, vI x4, vI x5, vI x6, y7] [vI w60, vI x2, vI x6, vI x1, vR 11 0] := rfl
theorem t_X11_strike_64 {G : Nat → zH → List zAV → List zAV → Option (zH × Int32)} (es : List zEnt) (σ : zH) (x1 : Int32) (x2 : Int32) (x3 : Int32) (x4 : Int32) (x5 : Int32) (x6 : Int32) (xs0 : Int32) (y7 : zAV)  : zev cc_X11_strike G 0 krI (zE 64 (.istore 7) 2 :: zE 66 (.iload 7) 2 :: zE 68 (.iload 4) 2 :: es) σ [vR 11 0, vI x1, vI x2, vI x3, vI x4, vI x5, vI x6, y7] [vI xs0] = zev cc_X11_strike G 0 krI es σ [vR 11 0, vI x1, vI x2, vI x3, vI x4, vI x5, vI x6, vI xs0] [vI x4, vI xs0] := rfl
theorem t_X11_strike_73 {G : Nat → zH → List zAV → List zAV → Option (zH × Int32)} (es : List zEnt) (σ : zH) (x1 : Int32) (x2 : Int32) (x3 : Int32) (x4 : Int32) (x6 : Int32) (x7 : Int32) (y5 : zAV)  : zev cc_X11_strike G 0 krI (zE 73 (.iload 6) 2 :: es) σ [vR 11 0, vI x1, vI x2, vI x3, vI x4, y5, vI x6, vI x7] [] = zev cc_X11_strike G 0 krI es σ [vR 11 0, vI x1, vI x2, vI x3, vI x4, y5, vI x6, vI x7] [vI x6] := rfl
theorem t_X11_strike_78 {G : Nat → zH → List zAV → List zAV → Option (zH × Int32)} (es : List zEnt) (σ : zH) (x1 : Int32) (x2 : Int32) (x3 : Int32) (x4 : Int32) (x5 : Int32) (x6 : Int32) (x7 : Int32)   : zev cc_X11_strike G 0 krI (zE 78 (.iload 5) 2 :: es) σ [vR 11 0, vI x1, vI x2, vI x3, vI x4, vI x5, vI x6, vI x7] [] = zev cc_X11_strike G 0 krI es σ [vR 11 0, vI x1, vI x2, vI x3, vI x4, vI x5, vI x6, vI x7] [vI x5] := rfl
theorem t_X11_strike_80 {G : Nat → zH → List zAV → List zAV → Option (zH × Int32)} (es : List zEnt) (σ : zH) (x1 : Int32) (x2 : Int32) (x3 : Int32) (x4 : Int32) (x6 : Int32) (x7 : Int32) (xs0 : Int32) (y5 : zAV)  : zev cc_X11_strike G 0 krI (zE 80 (.istore 5) 2 :: zE 82 (.iload 7) 2 :: zE 84 (.iload 4) 2 :: es) σ [vR 11 0, vI x1, vI x2, vI x3, vI x4, y5, vI x6, vI x7] [vI xs0] = zev cc_X11_strike G 0 krI es σ [vR 11 0, vI x1, vI x2, vI x3, vI x4, vI xs0, vI x6, vI x7] [vI x4, vI x7] := rfl
theorem t_X11_strike_89 {G : Nat → zH → List zAV → List zAV → Option (zH × Int32)} (es : List zEnt) (σ : zH) (x1 : Int32) (x2 : Int32) (x3 : Int32) (x5 : Int32) (x6 : Int32) (x7 : Int32) (y4 : zAV)  : zev cc_X11_strike G 0 krI (zE 89 (.iload 7) 2 :: es) σ [vR 11 0, vI x1, vI x2, vI x3, y4, vI x5, vI x6, vI x7] [] = zev cc_X11_strike G 0 krI es σ [vR 11 0, vI x1, vI x2, vI x3, y4, vI x5, vI x6, vI x7] [vI x7] := rfl
theorem t_X11_strike_94 {G : Nat → zH → List zAV → List zAV → Option (zH × Int32)} (es : List zEnt) (σ : zH) (x1 : Int32) (x2 : Int32) (x3 : Int32) (x4 : Int32) (x5 : Int32) (x6 : Int32) (y7 : zAV)  : zev cc_X11_strike G 0 krI (zE 94 (.iload 4) 2 :: es) σ [vR 11 0, vI x1, vI x2, vI x3, vI x4, vI x5, vI x6, y7] [] = zev cc_X11_strike G 0 krI es σ [vR 11 0, vI x1, vI x2, vI x3, vI x4, vI x5, vI x6, y7] [vI x4] := rfl
theorem t_X11_strike_96 {G : Nat → zH → List zAV → List zAV → Option (zH × Int32)} (es : List zEnt) (σ : zH) (x1 : Int32) (x2 : Int32) (x3 : Int32) (x5 : Int32) (x6 : Int32) (xs0 : Int32) (y4 : zAV) (y7 : zAV) (w98 : Int32) : zev cc_X11_strike G 0 krI (zE 96 (.istore 4) 2 :: zEk 98 (.iinc 6 1) 3 w98 :: es) σ [vR 11 0, vI x1, vI x2, vI x3, y4, vI x5, vI x6, y7] [vI xs0] = zev cc_X11_strike G 0 krI es σ [vR 11 0, vI x1, vI x2, vI x3, vI xs0, vI x5, vI (x6 + w98), y7] [] := rfl
theorem t_X11_strike_104 {G : Nat → zH → List zAV → List zAV → Option (zH × Int32)} (es : List zEnt) (σ : zH) (x3 : Int32) (x4 : Int32) (x5 : Int32) (y0 : zAV) (y1 : zAV) (y2 : zAV) (y6 : zAV) (y7 : zAV) (w106 : Int32) : zev cc_X11_strike G 0 krI (zE 104 (.iload 5) 2 :: zEk 106 (.bipush (-2)) 2 w106 :: es) σ [y0, y1, y2, vI x3, vI x4, vI x5, y6, y7] [] = zev cc_X11_strike G 0 krI es σ [y0, y1, y2, vI x3, vI x4, vI x5, y6, y7] [vI w106, vI x5] := rfl
theorem t_X11_strike_111 {G : Nat → zH → List zAV → List zAV → Option (zH × Int32)} (es : List zEnt) (σ : zH) (x3 : Int32) (x4 : Int32) (x5 : Int32) (y0 : zAV) (y1 : zAV) (y2 : zAV) (y6 : zAV) (y7 : zAV)  : zev cc_X11_strike G 0 krI (zE 111 (.iload_n 3) 1 :: es) σ [y0, y1, y2, vI x3, vI x4, vI x5, y6, y7] [] = zev cc_X11_strike G 0 krI es σ [y0, y1, y2, vI x3, vI x4, vI x5, y6, y7] [vI x3] := rfl
theorem t_X11_strike_115 {G : Nat → zH → List zAV → List zAV → Option (zH × Int32)} (es : List zEnt) (σ : zH) (x5 : Int32) (y0 : zAV) (y1 : zAV) (y2 : zAV) (y3 : zAV) (y4 : zAV) (y6 : zAV) (y7 : zAV)  : zev cc_X11_strike G 0 krI (zE 115 (.iload 5) 2 :: es) σ [y0, y1, y2, y3, y4, vI x5, y6, y7] [] = zev cc_X11_strike G 0 krI es σ [y0, y1, y2, y3, y4, vI x5, y6, y7] [vI x5] := rfl
theorem t_X11_strike_120 {G : Nat → zH → List zAV → List zAV → Option (zH × Int32)} (es : List zEnt) (σ : zH) (x4 : Int32) (y0 : zAV) (y1 : zAV) (y2 : zAV) (y3 : zAV) (y5 : zAV) (y6 : zAV) (y7 : zAV)  : zev cc_X11_strike G 0 krI (zE 120 (.iload 4) 2 :: es) σ [y0, y1, y2, y3, vI x4, y5, y6, y7] [] = zev cc_X11_strike G 0 krI es σ [y0, y1, y2, y3, vI x4, y5, y6, y7] [vI x4] := rfl
noncomputable def j_X11_strike_96 (c49 : zH → Int32 → Int32 → Int32 → Int32 → Int32 → Int32 → Option (zH × Int32)) (σ : zH) (x1 : Int32) (x2 : Int32) (x3 : Int32) (x5 : Int32) (x6 : Int32) (xs0 : Int32) : Option (zH × Int32) :=
  c49 σ x1 x2 x3 xs0 x5 (x6 + (1 : Int32))
theorem e_X11_strike_96 (c49 : zH → Int32 → Int32 → Int32 → Int32 → Int32 → Int32 → Option (zH × Int32)) (σ : zH) (x1 : Int32) (x2 : Int32) (x3 : Int32) (x5 : Int32) (x6 : Int32) (xs0 : Int32) (y4 : zAV) (y7 : zAV) : j_X11_strike_96 c49 σ x1 x2 x3 x5 x6 xs0 = zin cc_X11_strike (fun t => if t = 49 then some (gl_X11_strike_49 c49) else none) 0 krI b_X11_strike 96 σ [vR 11 0, vI x1, vI x2, vI x3, y4, vI x5, vI x6, y7] [vI xs0] := by
  unfold j_X11_strike_96
  refine Eq.symm ((zin_b (es := q_X11_strike_96) rfl).trans ?_)
  refine (t_X11_strike_96 _ _ _ _ _ _ _ _ _ _ _).trans ?_
  refine x_goto.trans ?_
  exact (zrun_c rfl).trans (glr_X11_strike_49 _ _ _ _ _ _ _ _ _)
theorem s_X11_strike_96 {X : zX} (hX : zHX X) {c49 : zH → Int32 → Int32 → Int32 → Int32 → Int32 → Int32 → Option (zH × Int32)} (h49 : ∀ σ L st r, gl_X11_strike_49 c49 σ L st = some r → zGW X 211 krI 49 σ L st r) : ∀ σ L st r, gl_X11_strike_96 (j_X11_strike_96 c49) σ L st = some r → zGW X 211 krI 96 σ L st r := by
  intro σ L st r h
  unfold gl_X11_strike_96 at h
  split at h
  · exact zin_ok (hy_X11_strike hX) bk_X11_strike (fun t f hf => by
    by_cases e49 : t = 49
    · rw [if_pos e49] at hf; subst e49; cases hf; exact h49
    rw [if_neg e49] at hf
    cases hf) ((e_X11_strike_96 _ _ _ _ _ _ _ _ _ _).symm.trans h)
  · cases h
noncomputable def j_X11_strike_80 (c49 : zH → Int32 → Int32 → Int32 → Int32 → Int32 → Int32 → Option (zH × Int32)) (σ : zH) (x1 : Int32) (x2 : Int32) (x3 : Int32) (x4 : Int32) (x6 : Int32) (x7 : Int32) (xs0 : Int32) : Option (zH × Int32) :=
  if x7 < x4 then
    (j_X11_strike_96 c49) σ x1 x2 x3 xs0 x6 x7
  else
    (j_X11_strike_96 c49) σ x1 x2 x3 xs0 x6 x4
theorem e_X11_strike_80 (c49 : zH → Int32 → Int32 → Int32 → Int32 → Int32 → Int32 → Option (zH × Int32)) (σ : zH) (x1 : Int32) (x2 : Int32) (x3 : Int32) (x4 : Int32) (x6 : Int32) (x7 : Int32) (xs0 : Int32) (y5 : zAV) : j_X11_strike_80 c49 σ x1 x2 x3 x4 x6 x7 xs0 = zin cc_X11_strike (fun t => if t = 96 then some (gl_X11_strike_96 (j_X11_strike_96 c49)) else none) 0 krI b_X11_strike 80 σ [vR 11 0, vI x1, vI x2, vI x3, vI x4, y5, vI x6, vI x7] [vI xs0] := by
  unfold j_X11_strike_80
  refine Eq.symm ((zin_b (es := q_X11_strike_80) rfl).trans ?_)
  refine (t_X11_strike_80 _ _ _ _ _ _ _ _ _ _).trans ?_
  refine x_icmp.trans (pif_ge ?_ ?_)
  · refine (zrun_b (es := q_X11_strike_94) rfl rfl).trans ?_
    refine (t_X11_strike_94 _ _ _ _ _ _ _ _ _).trans ?_
    refine x_cut.trans ?_
    exact (zrun_c rfl).trans (glr_X11_strike_96 _ _ _ _ _ _ _ _ _ _)
  · refine (t_X11_strike_89 _ _ _ _ _ _ _ _ _).trans ?_
    refine x_goto.trans ?_
    exact (zrun_c rfl).trans (glr_X11_strike_96 _ _ _ _ _ _ _ _ _ _)
theorem s_X11_strike_80 {X : zX} (hX : zHX X) {c49 : zH → Int32 → Int32 → Int32 → Int32 → Int32 → Int32 → Option (zH × Int32)} (h49 : ∀ σ L st r, gl_X11_strike_49 c49 σ L st = some r → zGW X 211 krI 49 σ L st r) : ∀ σ L st r, gl_X11_strike_80 (j_X11_strike_80 c49) σ L st = some r → zGW X 211 krI 80 σ L st r := by
  intro σ L st r h
  unfold gl_X11_strike_80 at h
  split at h
  · exact zin_ok (hy_X11_strike hX) bk_X11_strike (fun t f hf => by
    by_cases e96 : t = 96
    · rw [if_pos e96] at hf; subst e96; cases hf; exact (s_X11_strike_96 hX h49)
    rw [if_neg e96] at hf
    cases hf) ((e_X11_strike_80 _ _ _ _ _ _ _ _ _ _).symm.trans h)
  · cases h
noncomputable def k_X11_strike_49 (c104 : zH → Int32 → Int32 → Int32 → Option (zH × Int32)) : Nat → zH → Int32 → Int32 → Int32 → Int32 → Int32 → Int32 → Option (zH × Int32)
  | 0, _, _, _, _, _, _, _ => none
  | n + 1, σ, x1, x2, x3, x4, x5, x6 =>
    if x6 < x2 then
      (d_X11_tries σ x1 x6 x2 (1 : Int32)).bind fun p1 =>
      if p1.2 < x4 then
        (j_X11_strike_80 (k_X11_strike_49 c104 n)) p1.1 x1 x2 x3 x4 x6 p1.2 x6
      else
        (j_X11_strike_80 (k_X11_strike_49 c104 n)) p1.1 x1 x2 x3 x4 x6 p1.2 x5
    else
      c104 σ x3 x4 x5
theorem e_X11_strike_49 (c104 : zH → Int32 → Int32 → Int32 → Option (zH × Int32)) (n : Nat) (σ : zH) (x1 : Int32) (x2 : Int32) (x3 : Int32) (x4 : Int32) (x5 : Int32) (x6 : Int32) (y7 : zAV) : k_X11_strike_49 c104 (n + 1) σ x1 x2 x3 x4 x5 x6 = zin cc_X11_strike (fun t => if t = 80 then some (gl_X11_strike_80 (j_X11_strike_80 (k_X11_strike_49 c104 n))) else if t = 104 then some (gl_X11_strike_104 c104) else none) 0 krI b_X11_strike 49 σ [vR 11 0, vI x1, vI x2, vI x3, vI x4, vI x5, vI x6, y7] [] := by
  rw [k_X11_strike_49]
  refine Eq.symm ((zin_b (es := q_X11_strike_49) rfl).trans ?_)
  refine (t_X11_strike_49 _ _ _ _ _ _ _ _ _).trans ?_
  refine x_icmp.trans (pif_ge ?_ ?_)
  · exact (zrun_c rfl).trans (glr_X11_strike_104 _ _ _ _ _ _ _ _ _ _)
  · refine (t_X11_strike_55 _ _ _ _ _ _ _ _ _ _).trans ?_
    refine (x_callV rfl rfl rfl rfl).trans ((cl_X11_strike_X11_tries _ _ _).trans ((gr_X11_tries _ _ _ _ _ _).trans (pbd fun _ => ?_)))
    refine (t_X11_strike_64 _ _ _ _ _ _ _ _ _ _).trans ?_
    refine x_icmp.trans (pif_ge ?_ ?_)
    · refine (zrun_b (es := q_X11_strike_78) rfl rfl).trans ?_
      refine (t_X11_strike_78 _ _ _ _ _ _ _ _ _).trans ?_
      refine x_cut.trans ?_
      exact (zrun_c rfl).trans (glr_X11_strike_80 _ _ _ _ _ _ _ _ _ _)
    · refine (t_X11_strike_73 _ _ _ _ _ _ _ _ _).trans ?_
      refine x_goto.trans ?_
      exact (zrun_c rfl).trans (glr_X11_strike_80 _ _ _ _ _ _ _ _ _ _)
theorem s_X11_strike_49 {X : zX} (hX : zHX X) {c104 : zH → Int32 → Int32 → Int32 → Option (zH × Int32)} (h104 : ∀ σ L st r, gl_X11_strike_104 c104 σ L st = some r → zGW X 211 krI 104 σ L st r) : ∀ n σ L st r, gl_X11_strike_49 (k_X11_strike_49 c104 n) σ L st = some r → zGW X 211 krI 49 σ L st r := by
  intro n
  induction n with
  | zero =>
    intro σ L st r h
    unfold gl_X11_strike_49 at h
    split at h <;> cases h
  | succ n ih =>
    intro σ L st r h
    unfold gl_X11_strike_49 at h
    split at h
    · exact zin_ok (hy_X11_strike hX) bk_X11_strike (fun t f hf => by
      by_cases e80 : t = 80
      · rw [if_pos e80] at hf; subst e80; cases hf; exact (s_X11_strike_80 hX ih)
      rw [if_neg e80] at hf
      by_cases e104 : t = 104
      · rw [if_pos e104] at hf; subst e104; cases hf; exact h104
      rw [if_neg e104] at hf
      cases hf) ((e_X11_strike_49 _ _ _ _ _ _ _ _ _ _).symm.trans h)
    · cases h
noncomputable def j_X11_strike_104  (σ : zH) (x3 : Int32) (x4 : Int32) (x5 : Int32) : Option (zH × Int32) :=
  if x5 = (-2 : Int32) then
    some (σ, x5)
  else
    if x3 = 0 then
      some (σ, x5)
    else
      some (σ, x4)
theorem e_X11_strike_104  (σ : zH) (x3 : Int32) (x4 : Int32) (x5 : Int32) (y0 : zAV) (y1 : zAV) (y2 : zAV) (y6 : zAV) (y7 : zAV) : j_X11_strike_104 σ x3 x4 x5 = zin cc_X11_strike (fun t => none) 0 krI b_X11_strike 104 σ [y0, y1, y2, vI x3, vI x4, vI x5, y6, y7] [] := by
  unfold j_X11_strike_104
  refine Eq.symm ((zin_b (es := q_X11_strike_104) rfl).trans ?_)
  refine (t_X11_strike_104 _ _ _ _ _ _ _ _ _ _ _).trans ?_
  refine x_icmp.trans (pif_eq ?_ ?_)
  · refine (zrun_b (es := q_X11_strike_115) rfl rfl).trans ?_
    refine (t_X11_strike_115 _ _ _ _ _ _ _ _ _ _).trans ?_
    refine x_goto.trans ?_
    refine (zrun_b (es := q_X11_strike_122) rfl rfl).trans ?_
    exact x_iret
  · refine (t_X11_strike_111 _ _ _ _ _ _ _ _ _ _).trans ?_
    refine x_if.trans (pif_ne ?_ ?_)
    · refine (zrun_b (es := q_X11_strike_120) rfl rfl).trans ?_
      refine (t_X11_strike_120 _ _ _ _ _ _ _ _ _ _).trans ?_
      exact x_iret
    · refine (t_X11_strike_115 _ _ _ _ _ _ _ _ _ _).trans ?_
      refine x_goto.trans ?_
      refine (zrun_b (es := q_X11_strike_122) rfl rfl).trans ?_
      exact x_iret
theorem s_X11_strike_104 {X : zX} (hX : zHX X)   : ∀ σ L st r, gl_X11_strike_104 j_X11_strike_104 σ L st = some r → zGW X 211 krI 104 σ L st r := by
  intro σ L st r h
  unfold gl_X11_strike_104 at h
  split at h
  · exact zin_ok (hy_X11_strike hX) bk_X11_strike (fun t f hf => by
    cases hf) ((e_X11_strike_104 _ _ _ _ _ _ _ _ _).symm.trans h)
  · cases h
noncomputable def d_X11_strike (σ : zH) (xa1 : Int32) (xa2 : Int32) (xa3 : Int32) : Option (zH × Int32) :=
  (d_X11_isLaw σ xa1).bind fun p1 =>
  if p1.2 = 0 then
    some (p1.1, (-1 : Int32))
  else
    (d_X11_in p1.1 xa2.toInt64 (1 : Int64) (96 : Int64)).bind fun p2 =>
    if p2.2 = 0 then
      some (p2.1, (-1 : Int32))
    else
      (d_X11_in p2.1 xa3.toInt64 (0 : Int64) (1 : Int64)).bind fun p3 =>
      if p3.2 = 0 then
        some (p3.1, (-1 : Int32))
      else
        (d_X11_tries p3.1 xa1 (-1 : Int32) xa2 (1 : Int32)).bind fun p4 =>
        (k_X11_strike_49 j_X11_strike_104 zN) p4.1 xa1 xa2 xa3 p4.2 (-2 : Int32) (0 : Int32)
theorem e_X11_strike (σ : zH) (xa1 : Int32) (xa2 : Int32) (xa3 : Int32) : d_X11_strike σ xa1 xa2 xa3 = zin cc_X11_strike (fun t => if t = 49 then some (gl_X11_strike_49 (k_X11_strike_49 j_X11_strike_104 zN)) else none) 0 krI b_X11_strike 0 σ [vR 11 0, vI xa1, vI xa2, vI xa3, vU, vU, vU, vU] [] := by
  unfold d_X11_strike
  refine Eq.symm ((zin_b (es := q_X11_strike_0) rfl).trans ?_)
  refine (t_X11_strike_0 _ _ _ _ _ _ _ _ _).trans ?_
  refine (x_callV rfl rfl rfl rfl).trans ((cl_X11_strike_X11_isLaw _ _ _).trans ((gr_X11_isLaw _ _ _).trans (pbd fun _ => ?_)))
  refine x_if.trans (pif_eq ?_ ?_)
  · refine (zrun_b (es := q_X11_strike_30) rfl rfl).trans ?_
    refine (t_X11_strike_30 _ _ _ _ _ _ _ _ _ _ _).trans ?_
    exact x_iret
  · refine (t_X11_strike_8 _ _ _ _ _ _ _ _ _ _ _).trans ?_
    refine (x_callS rfl rfl rfl rfl).trans ((cl_X11_strike_X11_in _ _ _).trans ((gr_X11_in _ _ _ _ _).trans (pbd fun _ => ?_)))
    refine x_if.trans (pif_eq ?_ ?_)
    · refine (zrun_b (es := q_X11_strike_30) rfl rfl).trans ?_
      refine (t_X11_strike_30 _ _ _ _ _ _ _ _ _ _ _).trans ?_
      exact x_iret
    · refine (t_X11_strike_20 _ _ _ _ _ _ _ _ _ _ _).trans ?_
      refine (x_callS rfl rfl rfl rfl).trans ((cl_X11_strike_X11_in _ _ _).trans ((gr_X11_in _ _ _ _ _).trans (pbd fun _ => ?_)))
      refine x_if.trans (pif_ne ?_ ?_)
      · refine (zrun_b (es := q_X11_strike_32) rfl rfl).trans ?_
        refine (t_X11_strike_32 _ _ _ _ _ _ _ _ _ _ _).trans ?_
        refine (x_callV rfl rfl rfl rfl).trans ((cl_X11_strike_X11_tries _ _ _).trans ((gr_X11_tries _ _ _ _ _ _).trans (pbd fun _ => ?_)))
        refine (t_X11_strike_40 _ _ _ _ _ _ _ _ _ _ _ _).trans ?_
        refine x_cut.trans ?_
        exact (zrun_c rfl).trans (glr_X11_strike_49 _ _ _ _ _ _ _ _ _)
      · refine (t_X11_strike_30 _ _ _ _ _ _ _ _ _ _ _).trans ?_
        exact x_iret
noncomputable def g_X11_strike {ρ : Type} (σ : zH) (av : List zAV) (q : zH → zAV → Option ρ) : Option ρ := match av with
  | [.inr (.inr (.inl (11, 0))), .inl xa1, .inl xa2, .inl xa3] => (d_X11_strike σ xa1 xa2 xa3).bind fun p => q p.1 (vI p.2)
  | _ => none
theorem gr_X11_strike {ρ : Type} (σ : zH) (xa1 : Int32) (xa2 : Int32) (xa3 : Int32) (q : zH → zAV → Option ρ) : g_X11_strike σ [vR 11 0, vI xa1, vI xa2, vI xa3] q = (d_X11_strike σ xa1 xa2 xa3).bind fun p => q p.1 (vI p.2) := rfl
theorem c_X11_strike {ρ : Type} {X : zX} (hX : zHX X) {σ : zH} {av : List zAV} {q : zH → zAV → Option ρ} {r : ρ} (h : g_X11_strike σ av q = some r) (hv : ∀ a ∈ av, zval X a) : zcon X 211 σ av q r := by
  unfold g_X11_strike at h
  split at h
  · exact zcon_I (n := 211) (ml := 8) (rc := 0) (st := 0) (kd := 11) (np := 3) (by decide +kernel) (by decide) ⟨_, _, rfl, rfl⟩ (Nat.le_of_ble_eq_true rfl) hv h (fun y h1 => (zin_ok (hy_X11_strike hX) bk_X11_strike (fun t f hf => by
      by_cases e49 : t = 49
      · rw [if_pos e49] at hf; subst e49; cases hf; exact ((fun σ L st r h => s_X11_strike_49 hX (s_X11_strike_104 hX) zN σ L st r h))
      rw [if_neg e49] at hf
      cases hf) ((e_X11_strike _ _ _ _).symm.trans h1)))
  · cases h
/-! SleepWavesModel.just(II)I -/
def q_X11_just_31 : List zEnt := zE 31 .ireturn 1 :: []
def q_X11_just_30 : List zEnt := zEk 30 (.iconst (-1)) 1 (-1) :: q_X11_just_31
def q_X11_just_27 : List zEnt := zEa 27 (.ifCond .ne 5) 3 32 :: q_X11_just_30
def q_X11_just_24 : List zEnt := zEc 24 (.invokestatic 173) 3 125 3 129 0 :: q_X11_just_27
def q_X11_just_20 : List zEnt := zE 20 (.iload_n 2) 1 :: zE 21 .i2l 1 :: (22, (.lconst 0), 1, (0, 0, 0, 0), (0, 0, 0), 0, 0, []) :: (23, (.lconst 1), 1, (0, 0, 0, 0), (0, 0, 0), 0, 1, []) :: q_X11_just_24
def q_X11_just_17 : List zEnt := zEa 17 (.ifCond .eq 13) 3 30 :: q_X11_just_20
def q_X11_just_14 : List zEnt := zEc 14 (.invokestatic 173) 3 125 3 129 0 :: q_X11_just_17
def q_X11_just_10 : List zEnt := zE 10 .ishl 1 :: zEk 11 (.iconst 1) 1 1 :: zE 12 .isub 1 :: zE 13 .i2l 1 :: q_X11_just_14
def q_X11_just_9 : List zEnt := zE 9 .iaload 1 :: q_X11_just_10
def q_X11_just_0 : List zEnt := zE 0 (.iload_n 1) 1 :: zE 1 .i2l 1 :: (2, (.lconst 0), 1, (0, 0, 0, 0), (0, 0, 0), 0, 0, []) :: zEk 3 (.iconst 1) 1 1 :: zE 4 (.aload_n 0) 1 :: zEf 5 (.getfield 7) 3 11 1 149 (2, 42, 0) :: zEk 8 (.iconst 0) 1 0 :: q_X11_just_9
def q_X11_just_32 : List zEnt := zEk 32 (.iconst 0) 1 0 :: zE 33 (.istore_n 3) 1 :: zEk 34 (.bipush (-2)) 2 (-2) :: zE 36 (.istore 4) 2 :: zEk 38 (.iconst 0) 1 0 :: zE 39 (.istore 5) 2 :: [zE 41 .nop 0]
def q_X11_just_66 : List zEnt := zEa 66 (.goto 4) 3 70 :: []
def q_X11_just_65 : List zEnt := zEk 65 (.iconst 1) 1 1 :: q_X11_just_66
def q_X11_just_62 : List zEnt := zEa 62 (.if_icmp .ne 7) 3 69 :: q_X11_just_65
def q_X11_just_61 : List zEnt := zE 61 (.iload_n 1) 1 :: q_X11_just_62
def q_X11_just_60 : List zEnt := zE 60 .iaload 1 :: q_X11_just_61
def q_X11_just_53 : List zEnt := zE 53 (.iload_n 3) 1 :: zE 54 (.aload_n 0) 1 :: zEf 55 (.getfield 82) 3 11 25 173 (2, 66, 0) :: zE 58 (.iload 5) 2 :: q_X11_just_60
def q_X11_just_50 : List zEnt := zEa 50 (.if_icmp .ge 57) 3 107 :: q_X11_just_53
def q_X11_just_49 : List zEnt := zE 49 .iaload 1 :: q_X11_just_50
def q_X11_just_41 : List zEnt := zE 41 (.iload 5) 2 :: zE 43 (.aload_n 0) 1 :: zEf 44 (.getfield 7) 3 11 1 149 (2, 42, 0) :: zEk 47 (.bipush 9) 2 9 :: q_X11_just_49
def q_X11_just_69 : List zEnt := zEk 69 (.iconst 0) 1 0 :: [zE 70 .nop 0]
def q_X11_just_94 : List zEnt := zEa 94 (.goto 5) 3 99 :: []
def q_X11_just_90 : List zEnt := zE 90 (.iload 5) 2 :: zEk 92 (.iconst 1) 1 1 :: zE 93 .iadd 1 :: q_X11_just_94
def q_X11_just_87 : List zEnt := zEa 87 (.if_icmp .ne 10) 3 97 :: q_X11_just_90
def q_X11_just_86 : List zEnt := zE 86 (.iload_n 1) 1 :: q_X11_just_87
def q_X11_just_85 : List zEnt := zE 85 .iaload 1 :: q_X11_just_86
def q_X11_just_79 : List zEnt := zE 79 (.aload_n 0) 1 :: zEf 80 (.getfield 82) 3 11 25 173 (2, 66, 0) :: zE 83 (.iload 5) 2 :: q_X11_just_85
def q_X11_just_76 : List zEnt := zEa 76 (.if_icmp .ne 21) 3 97 :: q_X11_just_79
def q_X11_just_70 : List zEnt := zE 70 .iadd 1 :: zE 71 (.istore_n 3) 1 :: zE 72 (.iload 4) 2 :: zEk 74 (.bipush (-2)) 2 (-2) :: q_X11_just_76
def q_X11_just_97 : List zEnt := zE 97 (.iload 4) 2 :: [zE 99 .nop 0]
def q_X11_just_104 : List zEnt := zEa 104 (.goto (-63)) 3 41 :: []
def q_X11_just_99 : List zEnt := zE 99 (.istore 4) 2 :: zEk 101 (.iinc 5 1) 3 1 :: q_X11_just_104
def q_X11_just_112 : List zEnt := zEa 112 (.goto 5) 3 117 :: []
def q_X11_just_111 : List zEnt := zE 111 (.iload_n 3) 1 :: q_X11_just_112
def q_X11_just_108 : List zEnt := zEa 108 (.ifCond .ne 7) 3 115 :: q_X11_just_111
def q_X11_just_107 : List zEnt := zE 107 (.iload_n 2) 1 :: q_X11_just_108
def q_X11_just_117 : List zEnt := zE 117 .ireturn 1 :: []
def q_X11_just_115 : List zEnt := zE 115 (.iload 4) 2 :: q_X11_just_117
def b_X11_just : List (Nat × List zEnt) := [(0, q_X11_just_0), (30, q_X11_just_30), (32, q_X11_just_32), (41, q_X11_just_41), (69, q_X11_just_69), (70, q_X11_just_70), (97, q_X11_just_97), (99, q_X11_just_99), (107, q_X11_just_107), (115, q_X11_just_115), (117, q_X11_just_117)]
theorem bk_X11_just : zchB 212 b_X11_just = true := by decide +kernel
noncomputable def cc_X11_just {ρ : Type} : Nat → zH → List zAV → (zH → zAV → Option ρ) → Option ρ := fun n σ av q => if n = 125 then g_X11_in σ av q else none
theorem cs_X11_just {ρ : Type} {X : zX} (hX : zHX X) : zCS X (cc_X11_just (ρ := ρ)) := by
  intro n σ av q r h hv
  unfold cc_X11_just at h
  by_cases e_X11_in : n = 125
  · rw [if_pos e_X11_in] at h
    subst e_X11_in
    exact c_X11_in hX h hv
  rw [if_neg e_X11_in] at h
  cases h
theorem cl_X11_just_X11_in {ρ : Type} (σ : zH) (av : List zAV) (q : zH → zAV → Option ρ) : cc_X11_just 125 σ av q = g_X11_in σ av q := rfl
theorem hy_X11_just {ρ : Type} {X : zX} (hX : zHX X) : zHY X 212 (cc_X11_just (ρ := ρ)) := zHX.hY hX (cs_X11_just hX) (zmok_all 212 (by decide))
def gl_X11_just_41 {ρ : Type} (f : zH → Int32 → Int32 → Int32 → Int32 → Int32 → Option ρ) (σ : zH) (L st : List zAV) : Option ρ := match L, st with
  | [.inr (.inr (.inl (11, 0))), .inl x1, .inl x2, .inl x3, .inl x4, .inl x5], [] => f σ x1 x2 x3 x4 x5
  | _, _ => none
def gl_X11_just_70 {ρ : Type} (f : zH → Int32 → Int32 → Int32 → Int32 → Int32 → Int32 → Option ρ) (σ : zH) (L st : List zAV) : Option ρ := match L, st with
  | [.inr (.inr (.inl (11, 0))), .inl x1, .inl x2, _, .inl x4, .inl x5], [.inl xs1, .inl xs0] => f σ x1 x2 x4 x5 xs0 xs1
  | _, _ => none
def gl_X11_just_97 {ρ : Type} (f : zH → Int32 → Int32 → Int32 → Int32 → Int32 → Option ρ) (σ : zH) (L st : List zAV) : Option ρ := match L, st with
  | [.inr (.inr (.inl (11, 0))), .inl x1, .inl x2, .inl x3, .inl x4, .inl x5], [] => f σ x1 x2 x3 x4 x5
  | _, _ => none
def gl_X11_just_99 {ρ : Type} (f : zH → Int32 → Int32 → Int32 → Int32 → Int32 → Option ρ) (σ : zH) (L st : List zAV) : Option ρ := match L, st with
  | [.inr (.inr (.inl (11, 0))), .inl x1, .inl x2, .inl x3, _, .inl x5], [.inl xs0] => f σ x1 x2 x3 x5 xs0
  | _, _ => none
def gl_X11_just_107 {ρ : Type} (f : zH → Int32 → Int32 → Int32 → Option ρ) (σ : zH) (L st : List zAV) : Option ρ := match L, st with
  | [_, _, .inl x2, .inl x3, .inl x4, _], [] => f σ x2 x3 x4
  | _, _ => none
theorem glr_X11_just_41 {ρ : Type} (f : zH → Int32 → Int32 → Int32 → Int32 → Int32 → Option ρ) (σ : zH) (x1 : Int32) (x2 : Int32) (x3 : Int32) (x4 : Int32) (x5 : Int32)  : gl_X11_just_41 f σ [vR 11 0, vI x1, vI x2, vI x3, vI x4, vI x5] [] = f σ x1 x2 x3 x4 x5 := rfl
theorem glr_X11_just_70 {ρ : Type} (f : zH → Int32 → Int32 → Int32 → Int32 → Int32 → Int32 → Option ρ) (σ : zH) (x1 : Int32) (x2 : Int32) (x4 : Int32) (x5 : Int32) (xs0 : Int32) (xs1 : Int32) (y3 : zAV) : gl_X11_just_70 f σ [vR 11 0, vI x1, vI x2, y3, vI x4, vI x5] [vI xs1, vI xs0] = f σ x1 x2 x4 x5 xs0 xs1 := rfl
theorem glr_X11_just_97 {ρ : Type} (f : zH → Int32 → Int32 → Int32 → Int32 → Int32 → Option ρ) (σ : zH) (x1 : Int32) (x2 : Int32) (x3 : Int32) (x4 : Int32) (x5 : Int32)  : gl_X11_just_97 f σ [vR 11 0, vI x1, vI x2, vI x3, vI x4, vI x5] [] = f σ x1 x2 x3 x4 x5 := rfl
theorem glr_X11_just_99 {ρ : Type} (f : zH → Int32 → Int32 → Int32 → Int32 → Int32 → Option ρ) (σ : zH) (x1 : Int32) (x2 : Int32) (x3 : Int32) (x5 : Int32) (xs0 : Int32) (y4 : zAV) : gl_X11_just_99 f σ [vR 11 0, vI x1, vI x2, vI x3, y4, vI x5] [vI xs0] = f σ x1 x2 x3 x5 xs0 := rfl
theorem glr_X11_just_107 {ρ : Type} (f : zH → Int32 → Int32 → Int32 → Option ρ) (σ : zH) (x2 : Int32) (x3 : Int32) (x4 : Int32) (y0 : zAV) (y1 : zAV) (y5 : zAV) : gl_X11_just_107 f σ [y0, y1, vI x2, vI x3, vI x4, y5] [] = f σ x2 x3 x4 := rfl
theorem t_X11_just_0 {G : Nat → zH → List zAV → List zAV → Option (zH × Int32)} (es : List zEnt) (σ : zH) (x1 : Int32) (x2 : Int32) (y3 : zAV) (y4 : zAV) (y5 : zAV) (w2 : Int64) (w3 : Int32) (w8 : Int32) : zev cc_X11_just G 0 krI (zE 0 (.iload_n 1) 1 :: zE 1 .i2l 1 :: (2, (.lconst 0), 1, (0, 0, 0, 0), (0, 0, 0), 0, w2, []) :: zEk 3 (.iconst 1) 1 w3 :: zE 4 (.aload_n 0) 1 :: zEf 5 (.getfield 7) 3 11 1 149 (2, 42, 0) :: zEk 8 (.iconst 0) 1 w8 :: es) σ [vR 11 0, vI x1, vI x2, y3, y4, y5] [] = zev cc_X11_just G 0 krI es σ [vR 11 0, vI x1, vI x2, y3, y4, y5] [vI w8, vR 42 0, vI w3, vL w2, vL x1.toInt64] := rfl
theorem t_X11_just_10 {G : Nat → zH → List zAV → List zAV → Option (zH × Int32)} (es : List zEnt) (σ : zH) (x1 : Int32) (x2 : Int32) (zs0 : Int64) (zs1 : Int64) (xs2 : Int32) (xs3 : Int32) (y3 : zAV) (y4 : zAV) (y5 : zAV) (w11 : Int32) : zev cc_X11_just G 0 krI (zE 10 .ishl 1 :: zEk 11 (.iconst 1) 1 w11 :: zE 12 .isub 1 :: zE 13 .i2l 1 :: es) σ [vR 11 0, vI x1, vI x2, y3, y4, y5] [vI xs3, vI xs2, vL zs1, vL zs0] = zev cc_X11_just G 0 krI es σ [vR 11 0, vI x1, vI x2, y3, y4, y5] [vL ((xs2 <<< (xs3 &&& 31)) - w11).toInt64, vL zs1, vL zs0] := rfl
theorem t_X11_just_20 {G : Nat → zH → List zAV → List zAV → Option (zH × Int32)} (es : List zEnt) (σ : zH) (x1 : Int32) (x2 : Int32) (y3 : zAV) (y4 : zAV) (y5 : zAV) (w22 : Int64) (w23 : Int64) : zev cc_X11_just G 0 krI (zE 20 (.iload_n 2) 1 :: zE 21 .i2l 1 :: (22, (.lconst 0), 1, (0, 0, 0, 0), (0, 0, 0), 0, w22, []) :: (23, (.lconst 1), 1, (0, 0, 0, 0), (0, 0, 0), 0, w23, []) :: es) σ [vR 11 0, vI x1, vI x2, y3, y4, y5] [] = zev cc_X11_just G 0 krI es σ [vR 11 0, vI x1, vI x2, y3, y4, y5] [vL w23, vL w22, vL x2.toInt64] := rfl
theorem t_X11_just_30 {G : Nat → zH → List zAV → List zAV → Option (zH × Int32)} (es : List zEnt) (σ : zH)  (y0 : zAV) (y1 : zAV) (y2 : zAV) (y3 : zAV) (y4 : zAV) (y5 : zAV) (w30 : Int32) : zev cc_X11_just G 0 krI (zEk 30 (.iconst (-1)) 1 w30 :: es) σ [y0, y1, y2, y3, y4, y5] [] = zev cc_X11_just G 0 krI es σ [y0, y1, y2, y3, y4, y5] [vI w30] := rfl
theorem t_X11_just_32 {G : Nat → zH → List zAV → List zAV → Option (zH × Int32)} (es : List zEnt) (σ : zH) (x1 : Int32) (x2 : Int32) (y3 : zAV) (y4 : zAV) (y5 : zAV) (w32 : Int32) (w34 : Int32) (w38 : Int32) : zev cc_X11_just G 0 krI (zEk 32 (.iconst 0) 1 w32 :: zE 33 (.istore_n 3) 1 :: zEk 34 (.bipush (-2)) 2 w34 :: zE 36 (.istore 4) 2 :: zEk 38 (.iconst 0) 1 w38 :: zE 39 (.istore 5) 2 :: es) σ [vR 11 0, vI x1, vI x2, y3, y4, y5] [] = zev cc_X11_just G 0 krI es σ [vR 11 0, vI x1, vI x2, vI w32, vI w34, vI w38] [] := rfl
theorem t_X11_just_41 {G : Nat → zH → List zAV → List zAV → Option (zH × Int32)} (es : List zEnt) (σ : zH) (x1 : Int32) (x2 : Int32) (x3 : Int32) (x4 : Int32) (x5 : Int32)  (w47 : Int32) : zev cc_X11_just G 0 krI (zE 41 (.iload 5) 2 :: zE 43 (.aload_n 0) 1 :: zEf 44 (.getfield 7) 3 11 1 149 (2, 42, 0) :: zEk 47 (.bipush 9) 2 w47 :: es) σ [vR 11 0, vI x1, vI x2, vI x3, vI x4, vI x5] [] = zev cc_X11_just G 0 krI es σ [vR 11 0, vI x1, vI x2, vI x3, vI x4, vI x5] [vI w47, vR 42 0, vI x5] := rfl
theorem t_X11_just_53 {G : Nat → zH → List zAV → List zAV → Option (zH × Int32)} (es : List zEnt) (σ : zH) (x1 : Int32) (x2 : Int32) (x3 : Int32) (x4 : Int32) (x5 : Int32)   : zev cc_X11_just G 0 krI (zE 53 (.iload_n 3) 1 :: zE 54 (.aload_n 0) 1 :: zEf 55 (.getfield 82) 3 11 25 173 (2, 66, 0) :: zE 58 (.iload 5) 2 :: es) σ [vR 11 0, vI x1, vI x2, vI x3, vI x4, vI x5] [] = zev cc_X11_just G 0 krI es σ [vR 11 0, vI x1, vI x2, vI x3, vI x4, vI x5] [vI x5, vR 66 0, vI x3] := rfl
theorem t_X11_just_61 {G : Nat → zH → List zAV → List zAV → Option (zH × Int32)} (es : List zEnt) (σ : zH) (x1 : Int32) (x2 : Int32) (x4 : Int32) (x5 : Int32) (xs0 : Int32) (xs1 : Int32) (y3 : zAV)  : zev cc_X11_just G 0 krI (zE 61 (.iload_n 1) 1 :: es) σ [vR 11 0, vI x1, vI x2, y3, vI x4, vI x5] [vI xs1, vI xs0] = zev cc_X11_just G 0 krI es σ [vR 11 0, vI x1, vI x2, y3, vI x4, vI x5] [vI x1, vI xs1, vI xs0] := rfl
theorem t_X11_just_65 {G : Nat → zH → List zAV → List zAV → Option (zH × Int32)} (es : List zEnt) (σ : zH) (x1 : Int32) (x2 : Int32) (x4 : Int32) (x5 : Int32) (xs0 : Int32) (y3 : zAV) (w65 : Int32) : zev cc_X11_just G 0 krI (zEk 65 (.iconst 1) 1 w65 :: es) σ [vR 11 0, vI x1, vI x2, y3, vI x4, vI x5] [vI xs0] = zev cc_X11_just G 0 krI es σ [vR 11 0, vI x1, vI x2, y3, vI x4, vI x5] [vI w65, vI xs0] := rfl
theorem t_X11_just_69 {G : Nat → zH → List zAV → List zAV → Option (zH × Int32)} (es : List zEnt) (σ : zH) (x1 : Int32) (x2 : Int32) (x4 : Int32) (x5 : Int32) (xs0 : Int32) (y3 : zAV) (w69 : Int32) : zev cc_X11_just G 0 krI (zEk 69 (.iconst 0) 1 w69 :: es) σ [vR 11 0, vI x1, vI x2, y3, vI x4, vI x5] [vI xs0] = zev cc_X11_just G 0 krI es σ [vR 11 0, vI x1, vI x2, y3, vI x4, vI x5] [vI w69, vI xs0] := rfl
theorem t_X11_just_70 {G : Nat → zH → List zAV → List zAV → Option (zH × Int32)} (es : List zEnt) (σ : zH) (x1 : Int32) (x2 : Int32) (x4 : Int32) (x5 : Int32) (xs0 : Int32) (xs1 : Int32) (y3 : zAV) (w74 : Int32) : zev cc_X11_just G 0 krI (zE 70 .iadd 1 :: zE 71 (.istore_n 3) 1 :: zE 72 (.iload 4) 2 :: zEk 74 (.bipush (-2)) 2 w74 :: es) σ [vR 11 0, vI x1, vI x2, y3, vI x4, vI x5] [vI xs1, vI xs0] = zev cc_X11_just G 0 krI es σ [vR 11 0, vI x1, vI x2, vI (xs0 + xs1), vI x4, vI x5] [vI w74, vI x4] := rfl
theorem t_X11_just_79 {G : Nat → zH → List zAV → List zAV → Option (zH × Int32)} (es : List zEnt) (σ : zH) (x1 : Int32) (x2 : Int32) (x3 : Int32) (x4 : Int32) (x5 : Int32)   : zev cc_X11_just G 0 krI (zE 79 (.aload_n 0) 1 :: zEf 80 (.getfield 82) 3 11 25 173 (2, 66, 0) :: zE 83 (.iload 5) 2 :: es) σ [vR 11 0, vI x1, vI x2, vI x3, vI x4, vI x5] [] = zev cc_X11_just G 0 krI es σ [vR 11 0, vI x1, vI x2, vI x3, vI x4, vI x5] [vI x5, vR 66 0] := rfl
theorem t_X11_just_86 {G : Nat → zH → List zAV → List zAV → Option (zH × Int32)} (es : List zEnt) (σ : zH) (x1 : Int32) (x2 : Int32) (x3 : Int32) (x4 : Int32) (x5 : Int32) (xs0 : Int32)   : zev cc_X11_just G 0 krI (zE 86 (.iload_n 1) 1 :: es) σ [vR 11 0, vI x1, vI x2, vI x3, vI x4, vI x5] [vI xs0] = zev cc_X11_just G 0 krI es σ [vR 11 0, vI x1, vI x2, vI x3, vI x4, vI x5] [vI x1, vI xs0] := rfl
theorem t_X11_just_90 {G : Nat → zH → List zAV → List zAV → Option (zH × Int32)} (es : List zEnt) (σ : zH) (x1 : Int32) (x2 : Int32) (x3 : Int32) (x5 : Int32) (y4 : zAV) (w92 : Int32) : zev cc_X11_just G 0 krI (zE 90 (.iload 5) 2 :: zEk 92 (.iconst 1) 1 w92 :: zE 93 .iadd 1 :: es) σ [vR 11 0, vI x1, vI x2, vI x3, y4, vI x5] [] = zev cc_X11_just G 0 krI es σ [vR 11 0, vI x1, vI x2, vI x3, y4, vI x5] [vI (x5 + w92)] := rfl
theorem t_X11_just_97 {G : Nat → zH → List zAV → List zAV → Option (zH × Int32)} (es : List zEnt) (σ : zH) (x1 : Int32) (x2 : Int32) (x3 : Int32) (x4 : Int32) (x5 : Int32)   : zev cc_X11_just G 0 krI (zE 97 (.iload 4) 2 :: es) σ [vR 11 0, vI x1, vI x2, vI x3, vI x4, vI x5] [] = zev cc_X11_just G 0 krI es σ [vR 11 0, vI x1, vI x2, vI x3, vI x4, vI x5] [vI x4] := rfl
theorem t_X11_just_99 {G : Nat → zH → List zAV → List zAV → Option (zH × Int32)} (es : List zEnt) (σ : zH) (x1 : Int32) (x2 : Int32) (x3 : Int32) (x5 : Int32) (xs0 : Int32) (y4 : zAV) (w101 : Int32) : zev cc_X11_just G 0 krI (zE 99 (.istore 4) 2 :: zEk 101 (.iinc 5 1) 3 w101 :: es) σ [vR 11 0, vI x1, vI x2, vI x3, y4, vI x5] [vI xs0] = zev cc_X11_just G 0 krI es σ [vR 11 0, vI x1, vI x2, vI x3, vI xs0, vI (x5 + w101)] [] := rfl
theorem t_X11_just_107 {G : Nat → zH → List zAV → List zAV → Option (zH × Int32)} (es : List zEnt) (σ : zH) (x2 : Int32) (x3 : Int32) (x4 : Int32) (y0 : zAV) (y1 : zAV) (y5 : zAV)  : zev cc_X11_just G 0 krI (zE 107 (.iload_n 2) 1 :: es) σ [y0, y1, vI x2, vI x3, vI x4, y5] [] = zev cc_X11_just G 0 krI es σ [y0, y1, vI x2, vI x3, vI x4, y5] [vI x2] := rfl
theorem t_X11_just_111 {G : Nat → zH → List zAV → List zAV → Option (zH × Int32)} (es : List zEnt) (σ : zH) (x3 : Int32) (y0 : zAV) (y1 : zAV) (y2 : zAV) (y4 : zAV) (y5 : zAV)  : zev cc_X11_just G 0 krI (zE 111 (.iload_n 3) 1 :: es) σ [y0, y1, y2, vI x3, y4, y5] [] = zev cc_X11_just G 0 krI es σ [y0, y1, y2, vI x3, y4, y5] [vI x3] := rfl
theorem t_X11_just_115 {G : Nat → zH → List zAV → List zAV → Option (zH × Int32)} (es : List zEnt) (σ : zH) (x4 : Int32) (y0 : zAV) (y1 : zAV) (y2 : zAV) (y3 : zAV) (y5 : zAV)  : zev cc_X11_just G 0 krI (zE 115 (.iload 4) 2 :: es) σ [y0, y1, y2, y3, vI x4, y5] [] = zev cc_X11_just G 0 krI es σ [y0, y1, y2, y3, vI x4, y5] [vI x4] := rfl
noncomputable def j_X11_just_99 (c41 : zH → Int32 → Int32 → Int32 → Int32 → Int32 → Option (zH × Int32)) (σ : zH) (x1 : Int32) (x2 : Int32) (x3 : Int32) (x5 : Int32) (xs0 : Int32) : Option (zH × Int32) :=
  c41 σ x1 x2 x3 xs0 (x5 + (1 : Int32))
theorem e_X11_just_99 (c41 : zH → Int32 → Int32 → Int32 → Int32 → Int32 → Option (zH × Int32)) (σ : zH) (x1 : Int32) (x2 : Int32) (x3 : Int32) (x5 : Int32) (xs0 : Int32) (y4 : zAV) : j_X11_just_99 c41 σ x1 x2 x3 x5 xs0 = zin cc_X11_just (fun t => if t = 41 then some (gl_X11_just_41 c41) else none) 0 krI b_X11_just 99 σ [vR 11 0, vI x1, vI x2, vI x3, y4, vI x5] [vI xs0] := by
  unfold j_X11_just_99
  refine Eq.symm ((zin_b (es := q_X11_just_99) rfl).trans ?_)
  refine (t_X11_just_99 _ _ _ _ _ _ _ _ _).trans ?_
  refine x_goto.trans ?_
  exact (zrun_c rfl).trans (glr_X11_just_41 _ _ _ _ _ _ _)
theorem s_X11_just_99 {X : zX} (hX : zHX X) {c41 : zH → Int32 → Int32 → Int32 → Int32 → Int32 → Option (zH × Int32)} (h41 : ∀ σ L st r, gl_X11_just_41 c41 σ L st = some r → zGW X 212 krI 41 σ L st r) : ∀ σ L st r, gl_X11_just_99 (j_X11_just_99 c41) σ L st = some r → zGW X 212 krI 99 σ L st r := by
  intro σ L st r h
  unfold gl_X11_just_99 at h
  split at h
  · exact zin_ok (hy_X11_just hX) bk_X11_just (fun t f hf => by
    by_cases e41 : t = 41
    · rw [if_pos e41] at hf; subst e41; cases hf; exact h41
    rw [if_neg e41] at hf
    cases hf) ((e_X11_just_99 _ _ _ _ _ _ _ _).symm.trans h)
  · cases h
noncomputable def j_X11_just_97 (c41 : zH → Int32 → Int32 → Int32 → Int32 → Int32 → Option (zH × Int32)) (σ : zH) (x1 : Int32) (x2 : Int32) (x3 : Int32) (x4 : Int32) (x5 : Int32) : Option (zH × Int32) :=
  (j_X11_just_99 c41) σ x1 x2 x3 x5 x4
theorem e_X11_just_97 (c41 : zH → Int32 → Int32 → Int32 → Int32 → Int32 → Option (zH × Int32)) (σ : zH) (x1 : Int32) (x2 : Int32) (x3 : Int32) (x4 : Int32) (x5 : Int32)  : j_X11_just_97 c41 σ x1 x2 x3 x4 x5 = zin cc_X11_just (fun t => if t = 99 then some (gl_X11_just_99 (j_X11_just_99 c41)) else none) 0 krI b_X11_just 97 σ [vR 11 0, vI x1, vI x2, vI x3, vI x4, vI x5] [] := by
  unfold j_X11_just_97
  refine Eq.symm ((zin_b (es := q_X11_just_97) rfl).trans ?_)
  refine (t_X11_just_97 _ _ _ _ _ _ _).trans ?_
  refine x_cut.trans ?_
  exact (zrun_c rfl).trans (glr_X11_just_99 _ _ _ _ _ _ _ _)
theorem s_X11_just_97 {X : zX} (hX : zHX X) {c41 : zH → Int32 → Int32 → Int32 → Int32 → Int32 → Option (zH × Int32)} (h41 : ∀ σ L st r, gl_X11_just_41 c41 σ L st = some r → zGW X 212 krI 41 σ L st r) : ∀ σ L st r, gl_X11_just_97 (j_X11_just_97 c41) σ L st = some r → zGW X 212 krI 97 σ L st r := by
  intro σ L st r h
  unfold gl_X11_just_97 at h
  split at h
  · exact zin_ok (hy_X11_just hX) bk_X11_just (fun t f hf => by
    by_cases e99 : t = 99
    · rw [if_pos e99] at hf; subst e99; cases hf; exact (s_X11_just_99 hX h41)
    rw [if_neg e99] at hf
    cases hf) ((e_X11_just_97 _ _ _ _ _ _ _).symm.trans h)
  · cases h
noncomputable def j_X11_just_70 (c41 : zH → Int32 → Int32 → Int32 → Int32 → Int32 → Option (zH × Int32)) (σ : zH) (x1 : Int32) (x2 : Int32) (x4 : Int32) (x5 : Int32) (xs0 : Int32) (xs1 : Int32) : Option (zH × Int32) :=
  if x4 = (-2 : Int32) then
    ix x5 192 fun j1 =>
    if (σ.1 66 0 j1) = x1 then
      (j_X11_just_99 c41) σ x1 x2 (xs0 + xs1) x5 (x5 + (1 : Int32))
    else
      (j_X11_just_97 c41) σ x1 x2 (xs0 + xs1) x4 x5
  else
    (j_X11_just_97 c41) σ x1 x2 (xs0 + xs1) x4 x5
theorem e_X11_just_70 (c41 : zH → Int32 → Int32 → Int32 → Int32 → Int32 → Option (zH × Int32)) (σ : zH) (x1 : Int32) (x2 : Int32) (x4 : Int32) (x5 : Int32) (xs0 : Int32) (xs1 : Int32) (y3 : zAV) : j_X11_just_70 c41 σ x1 x2 x4 x5 xs0 xs1 = zin cc_X11_just (fun t => if t = 97 then some (gl_X11_just_97 (j_X11_just_97 c41)) else if t = 99 then some (gl_X11_just_99 (j_X11_just_99 c41)) else none) 0 krI b_X11_just 70 σ [vR 11 0, vI x1, vI x2, y3, vI x4, vI x5] [vI xs1, vI xs0] := by
  unfold j_X11_just_70
  refine Eq.symm ((zin_b (es := q_X11_just_70) rfl).trans ?_)
  refine (t_X11_just_70 _ _ _ _ _ _ _ _ _ _).trans ?_
  refine x_icmp.trans (pif_ne ?_ ?_)
  · exact (zrun_c rfl).trans (glr_X11_just_97 _ _ _ _ _ _ _)
  · refine (t_X11_just_79 _ _ _ _ _ _ _).trans ?_
    refine (x_iald (N := 192) rfl rfl).trans (pix fun _ => ?_)
    refine (t_X11_just_86 _ _ _ _ _ _ _ _).trans ?_
    refine x_icmp.trans (pif_ne ?_ ?_)
    · exact (zrun_c rfl).trans (glr_X11_just_97 _ _ _ _ _ _ _)
    · refine (t_X11_just_90 _ _ _ _ _ _ _ _).trans ?_
      refine x_goto.trans ?_
      exact (zrun_c rfl).trans (glr_X11_just_99 _ _ _ _ _ _ _ _)
theorem s_X11_just_70 {X : zX} (hX : zHX X) {c41 : zH → Int32 → Int32 → Int32 → Int32 → Int32 → Option (zH × Int32)} (h41 : ∀ σ L st r, gl_X11_just_41 c41 σ L st = some r → zGW X 212 krI 41 σ L st r) : ∀ σ L st r, gl_X11_just_70 (j_X11_just_70 c41) σ L st = some r → zGW X 212 krI 70 σ L st r := by
  intro σ L st r h
  unfold gl_X11_just_70 at h
  split at h
  · exact zin_ok (hy_X11_just hX) bk_X11_just (fun t f hf => by
    by_cases e97 : t = 97
    · rw [if_pos e97] at hf; subst e97; cases hf; exact (s_X11_just_97 hX h41)
    rw [if_neg e97] at hf
    by_cases e99 : t = 99
    · rw [if_pos e99] at hf; subst e99; cases hf; exact (s_X11_just_99 hX h41)
    rw [if_neg e99] at hf
    cases hf) ((e_X11_just_70 _ _ _ _ _ _ _ _ _).symm.trans h)
  · cases h
noncomputable def k_X11_just_41 (c107 : zH → Int32 → Int32 → Int32 → Option (zH × Int32)) : Nat → zH → Int32 → Int32 → Int32 → Int32 → Int32 → Option (zH × Int32)
  | 0, _, _, _, _, _, _ => none
  | n + 1, σ, x1, x2, x3, x4, x5 =>
    if x5 < (σ.1 42 0 9) then
      ix x5 192 fun j1 =>
      if (σ.1 66 0 j1) = x1 then
        (j_X11_just_70 (k_X11_just_41 c107 n)) σ x1 x2 x4 x5 x3 (1 : Int32)
      else
        (j_X11_just_70 (k_X11_just_41 c107 n)) σ x1 x2 x4 x5 x3 (0 : Int32)
    else
      c107 σ x2 x3 x4
theorem e_X11_just_41 (c107 : zH → Int32 → Int32 → Int32 → Option (zH × Int32)) (n : Nat) (σ : zH) (x1 : Int32) (x2 : Int32) (x3 : Int32) (x4 : Int32) (x5 : Int32)  : k_X11_just_41 c107 (n + 1) σ x1 x2 x3 x4 x5 = zin cc_X11_just (fun t => if t = 70 then some (gl_X11_just_70 (j_X11_just_70 (k_X11_just_41 c107 n))) else if t = 107 then some (gl_X11_just_107 c107) else none) 0 krI b_X11_just 41 σ [vR 11 0, vI x1, vI x2, vI x3, vI x4, vI x5] [] := by
  rw [k_X11_just_41]
  refine Eq.symm ((zin_b (es := q_X11_just_41) rfl).trans ?_)
  refine (t_X11_just_41 _ _ _ _ _ _ _ _).trans ?_
  refine ((x_iald (N := 11) rfl rfl).trans (ix_l 9 (by decide +kernel))).trans ?_
  refine x_icmp.trans (pif_ge ?_ ?_)
  · exact (zrun_c rfl).trans (glr_X11_just_107 _ _ _ _ _ _ _ _)
  · refine (t_X11_just_53 _ _ _ _ _ _ _).trans ?_
    refine (x_iald (N := 192) rfl rfl).trans (pix fun _ => ?_)
    refine (t_X11_just_61 _ _ _ _ _ _ _ _ _).trans ?_
    refine x_icmp.trans (pif_ne ?_ ?_)
    · refine (zrun_b (es := q_X11_just_69) rfl rfl).trans ?_
      refine (t_X11_just_69 _ _ _ _ _ _ _ _ _).trans ?_
      refine x_cut.trans ?_
      exact (zrun_c rfl).trans (glr_X11_just_70 _ _ _ _ _ _ _ _ _)
    · refine (t_X11_just_65 _ _ _ _ _ _ _ _ _).trans ?_
      refine x_goto.trans ?_
      exact (zrun_c rfl).trans (glr_X11_just_70 _ _ _ _ _ _ _ _ _)
theorem s_X11_just_41 {X : zX} (hX : zHX X) {c107 : zH → Int32 → Int32 → Int32 → Option (zH × Int32)} (h107 : ∀ σ L st r, gl_X11_just_107 c107 σ L st = some r → zGW X 212 krI 107 σ L st r) : ∀ n σ L st r, gl_X11_just_41 (k_X11_just_41 c107 n) σ L st = some r → zGW X 212 krI 41 σ L st r := by
  intro n
  induction n with
  | zero =>
    intro σ L st r h
    unfold gl_X11_just_41 at h
    split at h <;> cases h
  | succ n ih =>
    intro σ L st r h
    unfold gl_X11_just_41 at h
    split at h
    · exact zin_ok (hy_X11_just hX) bk_X11_just (fun t f hf => by
      by_cases e70 : t = 70
      · rw [if_pos e70] at hf; subst e70; cases hf; exact (s_X11_just_70 hX ih)
      rw [if_neg e70] at hf
      by_cases e107 : t = 107
      · rw [if_pos e107] at hf; subst e107; cases hf; exact h107
      rw [if_neg e107] at hf
      cases hf) ((e_X11_just_41 _ _ _ _ _ _ _ _).symm.trans h)
    · cases h
noncomputable def j_X11_just_107  (σ : zH) (x2 : Int32) (x3 : Int32) (x4 : Int32) : Option (zH × Int32) :=
  if x2 = 0 then
    some (σ, x3)
  else
    some (σ, x4)
theorem e_X11_just_107  (σ : zH) (x2 : Int32) (x3 : Int32) (x4 : Int32) (y0 : zAV) (y1 : zAV) (y5 : zAV) : j_X11_just_107 σ x2 x3 x4 = zin cc_X11_just (fun t => none) 0 krI b_X11_just 107 σ [y0, y1, vI x2, vI x3, vI x4, y5] [] := by
  unfold j_X11_just_107
  refine Eq.symm ((zin_b (es := q_X11_just_107) rfl).trans ?_)
  refine (t_X11_just_107 _ _ _ _ _ _ _ _).trans ?_
  refine x_if.trans (pif_ne ?_ ?_)
  · refine (zrun_b (es := q_X11_just_115) rfl rfl).trans ?_
    refine (t_X11_just_115 _ _ _ _ _ _ _ _).trans ?_
    exact x_iret
  · refine (t_X11_just_111 _ _ _ _ _ _ _ _).trans ?_
    refine x_goto.trans ?_
    refine (zrun_b (es := q_X11_just_117) rfl rfl).trans ?_
    exact x_iret
theorem s_X11_just_107 {X : zX} (hX : zHX X)   : ∀ σ L st r, gl_X11_just_107 j_X11_just_107 σ L st = some r → zGW X 212 krI 107 σ L st r := by
  intro σ L st r h
  unfold gl_X11_just_107 at h
  split at h
  · exact zin_ok (hy_X11_just hX) bk_X11_just (fun t f hf => by
    cases hf) ((e_X11_just_107 _ _ _ _ _ _ _).symm.trans h)
  · cases h
noncomputable def d_X11_just (σ : zH) (xa1 : Int32) (xa2 : Int32) : Option (zH × Int32) :=
  (d_X11_in σ xa1.toInt64 (0 : Int64) ((((1 : Int32) <<< ((σ.1 42 0 0) &&& 31)) - (1 : Int32)).toInt64)).bind fun p1 =>
  if p1.2 = 0 then
    some (p1.1, (-1 : Int32))
  else
    (d_X11_in p1.1 xa2.toInt64 (0 : Int64) (1 : Int64)).bind fun p2 =>
    if p2.2 = 0 then
      some (p2.1, (-1 : Int32))
    else
      (k_X11_just_41 j_X11_just_107 zN) p2.1 xa1 xa2 (0 : Int32) (-2 : Int32) (0 : Int32)
theorem e_X11_just (σ : zH) (xa1 : Int32) (xa2 : Int32) : d_X11_just σ xa1 xa2 = zin cc_X11_just (fun t => if t = 41 then some (gl_X11_just_41 (k_X11_just_41 j_X11_just_107 zN)) else none) 0 krI b_X11_just 0 σ [vR 11 0, vI xa1, vI xa2, vU, vU, vU] [] := by
  unfold d_X11_just
  refine Eq.symm ((zin_b (es := q_X11_just_0) rfl).trans ?_)
  refine (t_X11_just_0 _ _ _ _ _ _ _ _ _ _).trans ?_
  refine ((x_iald (N := 11) rfl rfl).trans (ix_l 0 (by decide +kernel))).trans ?_
  refine (t_X11_just_10 _ _ _ _ _ _ _ _ _ _ _ _).trans ?_
  refine (x_callS rfl rfl rfl rfl).trans ((cl_X11_just_X11_in _ _ _).trans ((gr_X11_in _ _ _ _ _).trans (pbd fun _ => ?_)))
  refine x_if.trans (pif_eq ?_ ?_)
  · refine (zrun_b (es := q_X11_just_30) rfl rfl).trans ?_
    refine (t_X11_just_30 _ _ _ _ _ _ _ _ _).trans ?_
    exact x_iret
  · refine (t_X11_just_20 _ _ _ _ _ _ _ _ _).trans ?_
    refine (x_callS rfl rfl rfl rfl).trans ((cl_X11_just_X11_in _ _ _).trans ((gr_X11_in _ _ _ _ _).trans (pbd fun _ => ?_)))
    refine x_if.trans (pif_ne ?_ ?_)
    · refine (zrun_b (es := q_X11_just_32) rfl rfl).trans ?_
      refine (t_X11_just_32 _ _ _ _ _ _ _ _ _ _).trans ?_
      refine x_cut.trans ?_
      exact (zrun_c rfl).trans (glr_X11_just_41 _ _ _ _ _ _ _)
    · refine (t_X11_just_30 _ _ _ _ _ _ _ _ _).trans ?_
      exact x_iret
noncomputable def g_X11_just {ρ : Type} (σ : zH) (av : List zAV) (q : zH → zAV → Option ρ) : Option ρ := match av with
  | [.inr (.inr (.inl (11, 0))), .inl xa1, .inl xa2] => (d_X11_just σ xa1 xa2).bind fun p => q p.1 (vI p.2)
  | _ => none
theorem gr_X11_just {ρ : Type} (σ : zH) (xa1 : Int32) (xa2 : Int32) (q : zH → zAV → Option ρ) : g_X11_just σ [vR 11 0, vI xa1, vI xa2] q = (d_X11_just σ xa1 xa2).bind fun p => q p.1 (vI p.2) := rfl
theorem c_X11_just {ρ : Type} {X : zX} (hX : zHX X) {σ : zH} {av : List zAV} {q : zH → zAV → Option ρ} {r : ρ} (h : g_X11_just σ av q = some r) (hv : ∀ a ∈ av, zval X a) : zcon X 212 σ av q r := by
  unfold g_X11_just at h
  split at h
  · exact zcon_I (n := 212) (ml := 6) (rc := 0) (st := 0) (kd := 11) (np := 2) (by decide +kernel) (by decide) ⟨_, _, rfl, rfl⟩ (Nat.le_of_ble_eq_true rfl) hv h (fun y h1 => (zin_ok (hy_X11_just hX) bk_X11_just (fun t f hf => by
      by_cases e41 : t = 41
      · rw [if_pos e41] at hf; subst e41; cases hf; exact ((fun σ L st r h => s_X11_just_41 hX (s_X11_just_107 hX) zN σ L st r h))
      rw [if_neg e41] at hf
      cases hf) ((e_X11_just _ _ _).symm.trans h1)))
  · cases h
/-! SleepWavesModel.seed(I)I -/
def q_X11_seed_5 : List zEnt := zE 5 .ireturn 1 :: []
def q_X11_seed_4 : List zEnt := zEk 4 (.iconst (-1)) 1 (-1) :: q_X11_seed_5
def q_X11_seed_1 : List zEnt := zEa 1 (.ifCond .ge 5) 3 6 :: q_X11_seed_4
def q_X11_seed_0 : List zEnt := zE 0 (.iload_n 1) 1 :: q_X11_seed_1
def q_X11_seed_23 : List zEnt := zE 23 .ireturn 1 :: []
def q_X11_seed_22 : List zEnt := zE 22 (.iload_n 2) 1 :: q_X11_seed_23
def q_X11_seed_21 : List zEnt := zE 21 .iastore 1 :: q_X11_seed_22
def q_X11_seed_13 : List zEnt := zE 13 (.istore_n 2) 1 :: zE 14 (.aload_n 0) 1 :: zEf 15 (.getfield 7) 3 11 1 149 (2, 42, 0) :: zEk 18 (.bipush 10) 2 10 :: zE 20 (.iload_n 1) 1 :: q_X11_seed_21
def q_X11_seed_12 : List zEnt := zE 12 .iaload 1 :: q_X11_seed_13
def q_X11_seed_6 : List zEnt := zE 6 (.aload_n 0) 1 :: zEf 7 (.getfield 7) 3 11 1 149 (2, 42, 0) :: zEk 10 (.bipush 10) 2 10 :: q_X11_seed_12
def b_X11_seed : List (Nat × List zEnt) := [(0, q_X11_seed_0), (6, q_X11_seed_6)]
theorem bk_X11_seed : zchB 213 b_X11_seed = true := by decide +kernel
theorem hy_X11_seed {ρ : Type} {X : zX} (hX : zHX X) : zHY X 213 (zc0 (ρ := ρ)) := zHX.hY hX (zc0_ok X) (zmok_all 213 (by decide))
theorem t_X11_seed_0 {G : Nat → zH → List zAV → List zAV → Option (zH × Int32)} (es : List zEnt) (σ : zH) (x1 : Int32) (y2 : zAV)  : zev zc0 G 0 krI (zE 0 (.iload_n 1) 1 :: es) σ [vR 11 0, vI x1, y2] [] = zev zc0 G 0 krI es σ [vR 11 0, vI x1, y2] [vI x1] := rfl
theorem t_X11_seed_4 {G : Nat → zH → List zAV → List zAV → Option (zH × Int32)} (es : List zEnt) (σ : zH)  (y0 : zAV) (y1 : zAV) (y2 : zAV) (w4 : Int32) : zev zc0 G 0 krI (zEk 4 (.iconst (-1)) 1 w4 :: es) σ [y0, y1, y2] [] = zev zc0 G 0 krI es σ [y0, y1, y2] [vI w4] := rfl
theorem t_X11_seed_6 {G : Nat → zH → List zAV → List zAV → Option (zH × Int32)} (es : List zEnt) (σ : zH) (x1 : Int32) (y2 : zAV) (w10 : Int32) : zev zc0 G 0 krI (zE 6 (.aload_n 0) 1 :: zEf 7 (.getfield 7) 3 11 1 149 (2, 42, 0) :: zEk 10 (.bipush 10) 2 w10 :: es) σ [vR 11 0, vI x1, y2] [] = zev zc0 G 0 krI es σ [vR 11 0, vI x1, y2] [vI w10, vR 42 0] := rfl
theorem t_X11_seed_13 {G : Nat → zH → List zAV → List zAV → Option (zH × Int32)} (es : List zEnt) (σ : zH) (x1 : Int32) (xs0 : Int32) (y2 : zAV) (w18 : Int32) : zev zc0 G 0 krI (zE 13 (.istore_n 2) 1 :: zE 14 (.aload_n 0) 1 :: zEf 15 (.getfield 7) 3 11 1 149 (2, 42, 0) :: zEk 18 (.bipush 10) 2 w18 :: zE 20 (.iload_n 1) 1 :: es) σ [vR 11 0, vI x1, y2] [vI xs0] = zev zc0 G 0 krI es σ [vR 11 0, vI x1, vI xs0] [vI x1, vI w18, vR 42 0] := rfl
theorem t_X11_seed_22 {G : Nat → zH → List zAV → List zAV → Option (zH × Int32)} (es : List zEnt) (σ : zH) (x2 : Int32) (y0 : zAV) (y1 : zAV)  : zev zc0 G 0 krI (zE 22 (.iload_n 2) 1 :: es) σ [y0, y1, vI x2] [] = zev zc0 G 0 krI es σ [y0, y1, vI x2] [vI x2] := rfl
noncomputable def d_X11_seed (σ : zH) (xa1 : Int32) : Option (zH × Int32) :=
  if xa1 < 0 then
    some (σ, (-1 : Int32))
  else
    zlet (uI σ 42 0 10 xa1) fun σ1 =>
    some (σ1, (σ.1 42 0 10))
theorem e_X11_seed (σ : zH) (xa1 : Int32) : d_X11_seed σ xa1 = zin zc0 (fun t => none) 0 krI b_X11_seed 0 σ [vR 11 0, vI xa1, vU] [] := by
  unfold d_X11_seed
  refine Eq.symm ((zin_b (es := q_X11_seed_0) rfl).trans ?_)
  refine (t_X11_seed_0 _ _ _ _).trans ?_
  refine x_if.trans (pif_ge ?_ ?_)
  · refine (zrun_b (es := q_X11_seed_6) rfl rfl).trans ?_
    refine (t_X11_seed_6 _ _ _ _ _).trans ?_
    refine ((x_iald (N := 11) rfl rfl).trans (ix_l 10 (by decide +kernel))).trans ?_
    refine (t_X11_seed_13 _ _ _ _ _ _).trans ?_
    refine (x_iast (N := 11) rfl rfl).trans ((ix_l 10 (by decide +kernel)).trans (plt fun _ => ?_))
    refine (t_X11_seed_22 _ _ _ _ _).trans ?_
    exact x_iret
  · refine (t_X11_seed_4 _ _ _ _ _ _).trans ?_
    exact x_iret
noncomputable def g_X11_seed {ρ : Type} (σ : zH) (av : List zAV) (q : zH → zAV → Option ρ) : Option ρ := match av with
  | [.inr (.inr (.inl (11, 0))), .inl xa1] => (d_X11_seed σ xa1).bind fun p => q p.1 (vI p.2)
  | _ => none
theorem gr_X11_seed {ρ : Type} (σ : zH) (xa1 : Int32) (q : zH → zAV → Option ρ) : g_X11_seed σ [vR 11 0, vI xa1] q = (d_X11_seed σ xa1).bind fun p => q p.1 (vI p.2) := rfl
theorem c_X11_seed {ρ : Type} {X : zX} (hX : zHX X) {σ : zH} {av : List zAV} {q : zH → zAV → Option ρ} {r : ρ} (h : g_X11_seed σ av q = some r) (hv : ∀ a ∈ av, zval X a) : zcon X 213 σ av q r := by
  unfold g_X11_seed at h
  split at h
  · exact zcon_I (n := 213) (ml := 3) (rc := 0) (st := 0) (kd := 11) (np := 1) (by decide +kernel) (by decide) ⟨_, _, rfl, rfl⟩ (Nat.le_of_ble_eq_true rfl) hv h (fun y h1 => (zin_ok (hy_X11_seed hX) bk_X11_seed (fun t f hf => by
      cases hf) ((e_X11_seed _ _).symm.trans h1)))
  · cases h
/-! SleepWavesModel.count(I)I -/
def q_X11_count_1 : List zEnt := (1, (.tableswitch 172 0 13 #[71, 78, 85, 92, 97, 104, 113, 120, 128, 136, 144, 152, 160, 165]), 71, (173, 0, 0, 0), (0, 0, 0), 0, 0, [(0, 72), (1, 79), (2, 86), (3, 93), (4, 98), (5, 105), (6, 114), (7, 121), (8, 129), (9, 137), (10, 145), (11, 153), (12, 161), (13, 166)]) :: []
def q_X11_count_0 : List zEnt := zE 0 (.iload_n 1) 1 :: q_X11_count_1
def q_X11_count_78 : List zEnt := zE 78 .ireturn 1 :: []
def q_X11_count_77 : List zEnt := zE 77 .iaload 1 :: q_X11_count_78
def q_X11_count_72 : List zEnt := zE 72 (.aload_n 0) 1 :: zEf 73 (.getfield 7) 3 11 1 149 (2, 42, 0) :: zEk 76 (.iconst 0) 1 0 :: q_X11_count_77
def q_X11_count_85 : List zEnt := zE 85 .ireturn 1 :: []
def q_X11_count_84 : List zEnt := zE 84 .iaload 1 :: q_X11_count_85
def q_X11_count_79 : List zEnt := zE 79 (.aload_n 0) 1 :: zEf 80 (.getfield 7) 3 11 1 149 (2, 42, 0) :: zEk 83 (.iconst 1) 1 1 :: q_X11_count_84
def q_X11_count_92 : List zEnt := zE 92 .ireturn 1 :: []
def q_X11_count_91 : List zEnt := zE 91 .iaload 1 :: q_X11_count_92
def q_X11_count_86 : List zEnt := zE 86 (.aload_n 0) 1 :: zEf 87 (.getfield 7) 3 11 1 149 (2, 42, 0) :: zEk 90 (.iconst 2) 1 2 :: q_X11_count_91
def q_X11_count_97 : List zEnt := zE 97 .ireturn 1 :: []
def q_X11_count_93 : List zEnt := zE 93 (.aload_n 0) 1 :: zEf 94 (.getfield 342) 3 11 34 182 (0, 0, 0) :: q_X11_count_97
def q_X11_count_104 : List zEnt := zE 104 .ireturn 1 :: []
def q_X11_count_103 : List zEnt := zE 103 .iaload 1 :: q_X11_count_104
def q_X11_count_98 : List zEnt := zE 98 (.aload_n 0) 1 :: zEf 99 (.getfield 7) 3 11 1 149 (2, 42, 0) :: zEk 102 (.iconst 4) 1 4 :: q_X11_count_103
def q_X11_count_113 : List zEnt := zE 113 .ireturn 1 :: []
def q_X11_count_110 : List zEnt := zEc 110 (.invokevirtual 359) 3 129 2 153 0 :: q_X11_count_113
def q_X11_count_107 : List zEnt := zEc 107 (.invokevirtual 356) 3 128 1 147 0 :: q_X11_count_110
def q_X11_count_105 : List zEnt := zE 105 (.aload_n 0) 1 :: zE 106 (.aload_n 0) 1 :: q_X11_count_107
def q_X11_count_120 : List zEnt := zE 120 .ireturn 1 :: []
def q_X11_count_119 : List zEnt := zE 119 .iaload 1 :: q_X11_count_120
def q_X11_count_114 : List zEnt := zE 114 (.aload_n 0) 1 :: zEf 115 (.getfield 7) 3 11 1 149 (2, 42, 0) :: zEk 118 (.iconst 5) 1 5 :: q_X11_count_119
def q_X11_count_128 : List zEnt := zE 128 .ireturn 1 :: []
def q_X11_count_127 : List zEnt := zE 127 .iaload 1 :: q_X11_count_128
def q_X11_count_121 : List zEnt := zE 121 (.aload_n 0) 1 :: zEf 122 (.getfield 7) 3 11 1 149 (2, 42, 0) :: zEk 125 (.bipush 6) 2 6 :: q_X11_count_127
def q_X11_count_136 : List zEnt := zE 136 .ireturn 1 :: []
def q_X11_count_135 : List zEnt := zE 135 .iaload 1 :: q_X11_count_136
def q_X11_count_129 : List zEnt := zE 129 (.aload_n 0) 1 :: zEf 130 (.getfield 7) 3 11 1 149 (2, 42, 0) :: zEk 133 (.bipush 7) 2 7 :: q_X11_count_135
def q_X11_count_144 : List zEnt := zE 144 .ireturn 1 :: []
def q_X11_count_143 : List zEnt := zE 143 .iaload 1 :: q_X11_count_144
def q_X11_count_137 : List zEnt := zE 137 (.aload_n 0) 1 :: zEf 138 (.getfield 7) 3 11 1 149 (2, 42, 0) :: zEk 141 (.bipush 8) 2 8 :: q_X11_count_143
def q_X11_count_152 : List zEnt := zE 152 .ireturn 1 :: []
def q_X11_count_151 : List zEnt := zE 151 .iaload 1 :: q_X11_count_152
def q_X11_count_145 : List zEnt := zE 145 (.aload_n 0) 1 :: zEf 146 (.getfield 7) 3 11 1 149 (2, 42, 0) :: zEk 149 (.bipush 9) 2 9 :: q_X11_count_151
def q_X11_count_160 : List zEnt := zE 160 .ireturn 1 :: []
def q_X11_count_159 : List zEnt := zE 159 .iaload 1 :: q_X11_count_160
def q_X11_count_153 : List zEnt := zE 153 (.aload_n 0) 1 :: zEf 154 (.getfield 7) 3 11 1 149 (2, 42, 0) :: zEk 157 (.bipush 10) 2 10 :: q_X11_count_159
def q_X11_count_165 : List zEnt := zE 165 .ireturn 1 :: []
def q_X11_count_161 : List zEnt := zE 161 (.aload_n 0) 1 :: zEf 162 (.getfield 181) 3 11 30 178 (0, 0, 0) :: q_X11_count_165
def q_X11_count_172 : List zEnt := zE 172 .ireturn 1 :: []
def q_X11_count_171 : List zEnt := zE 171 .iaload 1 :: q_X11_count_172
def q_X11_count_166 : List zEnt := zE 166 (.aload_n 0) 1 :: zEf 167 (.getfield 7) 3 11 1 149 (2, 42, 0) :: zEk 170 (.iconst 3) 1 3 :: q_X11_count_171
def q_X11_count_174 : List zEnt := zE 174 .ireturn 1 :: []
def q_X11_count_173 : List zEnt := zEk 173 (.iconst (-1)) 1 (-1) :: q_X11_count_174
def b_X11_count : List (Nat × List zEnt) := [(0, q_X11_count_0), (72, q_X11_count_72), (79, q_X11_count_79), (86, q_X11_count_86), (93, q_X11_count_93), (98, q_X11_count_98), (105, q_X11_count_105), (114, q_X11_count_114), (121, q_X11_count_121), (129, q_X11_count_129), (137, q_X11_count_137), (145, q_X11_count_145), (153, q_X11_count_153), (161, q_X11_count_161), (166, q_X11_count_166), (173, q_X11_count_173)]
theorem bk_X11_count : zchB 214 b_X11_count = true := by decide +kernel
noncomputable def cc_X11_count {ρ : Type} : Nat → zH → List zAV → (zH → zAV → Option ρ) → Option ρ := fun n σ av q => if n = 128 then g_X11_upSet σ av q else if n = 129 then g_X11_menOf σ av q else none
theorem cs_X11_count {ρ : Type} {X : zX} (hX : zHX X) : zCS X (cc_X11_count (ρ := ρ)) := by
  intro n σ av q r h hv
  unfold cc_X11_count at h
  by_cases e_X11_upSet : n = 128
  · rw [if_pos e_X11_upSet] at h
    subst e_X11_upSet
    exact c_X11_upSet hX h hv
  rw [if_neg e_X11_upSet] at h
  by_cases e_X11_menOf : n = 129
  · rw [if_pos e_X11_menOf] at h
    subst e_X11_menOf
    exact c_X11_menOf hX h hv
  rw [if_neg e_X11_menOf] at h
  cases h
theorem cl_X11_count_X11_upSet {ρ : Type} (σ : zH) (av : List zAV) (q : zH → zAV → Option ρ) : cc_X11_count 128 σ av q = g_X11_upSet σ av q := rfl
theorem cl_X11_count_X11_menOf {ρ : Type} (σ : zH) (av : List zAV) (q : zH → zAV → Option ρ) : cc_X11_count 129 σ av q = g_X11_menOf σ av q := rfl
theorem hy_X11_count {ρ : Type} {X : zX} (hX : zHX X) : zHY X 214 (cc_X11_count (ρ := ρ)) := zHX.hY hX (cs_X11_count hX) (zmok_all 214 (by decide))
theorem t_X11_count_0 {G : Nat → zH → List zAV → List zAV → Option (zH × Int32)} (es : List zEnt) (σ : zH) (x1 : Int32)   : zev cc_X11_count G 0 krI (zE 0 (.iload_n 1) 1 :: es) σ [vR 11 0, vI x1] [] = zev cc_X11_count G 0 krI es σ [vR 11 0, vI x1] [vI x1] := rfl
theorem t_X11_count_72 {G : Nat → zH → List zAV → List zAV → Option (zH × Int32)} (es : List zEnt) (σ : zH)  (y1 : zAV) (w76 : Int32) : zev cc_X11_count G 0 krI (zE 72 (.aload_n 0) 1 :: zEf 73 (.getfield 7) 3 11 1 149 (2, 42, 0) :: zEk 76 (.iconst 0) 1 w76 :: es) σ [vR 11 0, y1] [] = zev cc_X11_count G 0 krI es σ [vR 11 0, y1] [vI w76, vR 42 0] := rfl
theorem t_X11_count_79 {G : Nat → zH → List zAV → List zAV → Option (zH × Int32)} (es : List zEnt) (σ : zH)  (y1 : zAV) (w83 : Int32) : zev cc_X11_count G 0 krI (zE 79 (.aload_n 0) 1 :: zEf 80 (.getfield 7) 3 11 1 149 (2, 42, 0) :: zEk 83 (.iconst 1) 1 w83 :: es) σ [vR 11 0, y1] [] = zev cc_X11_count G 0 krI es σ [vR 11 0, y1] [vI w83, vR 42 0] := rfl
theorem t_X11_count_86 {G : Nat → zH → List zAV → List zAV → Option (zH × Int32)} (es : List zEnt) (σ : zH)  (y1 : zAV) (w90 : Int32) : zev cc_X11_count G 0 krI (zE 86 (.aload_n 0) 1 :: zEf 87 (.getfield 7) 3 11 1 149 (2, 42, 0) :: zEk 90 (.iconst 2) 1 w90 :: es) σ [vR 11 0, y1] [] = zev cc_X11_count G 0 krI es σ [vR 11 0, y1] [vI w90, vR 42 0] := rfl
theorem t_X11_count_93 {G : Nat → zH → List zAV → List zAV → Option (zH × Int32)} (es : List zEnt) (σ : zH)  (y1 : zAV)  : zev cc_X11_count G 0 krI (zE 93 (.aload_n 0) 1 :: zEf 94 (.getfield 342) 3 11 34 182 (0, 0, 0) :: es) σ [vR 11 0, y1] [] = zev cc_X11_count G 0 krI es σ [vR 11 0, y1] [vI (σ.1 11 0 34)] := rfl
theorem t_X11_count_98 {G : Nat → zH → List zAV → List zAV → Option (zH × Int32)} (es : List zEnt) (σ : zH)  (y1 : zAV) (w102 : Int32) : zev cc_X11_count G 0 krI (zE 98 (.aload_n 0) 1 :: zEf 99 (.getfield 7) 3 11 1 149 (2, 42, 0) :: zEk 102 (.iconst 4) 1 w102 :: es) σ [vR 11 0, y1] [] = zev cc_X11_count G 0 krI es σ [vR 11 0, y1] [vI w102, vR 42 0] := rfl
theorem t_X11_count_105 {G : Nat → zH → List zAV → List zAV → Option (zH × Int32)} (es : List zEnt) (σ : zH)  (y1 : zAV)  : zev cc_X11_count G 0 krI (zE 105 (.aload_n 0) 1 :: zE 106 (.aload_n 0) 1 :: es) σ [vR 11 0, y1] [] = zev cc_X11_count G 0 krI es σ [vR 11 0, y1] [vR 11 0, vR 11 0] := rfl
theorem t_X11_count_114 {G : Nat → zH → List zAV → List zAV → Option (zH × Int32)} (es : List zEnt) (σ : zH)  (y1 : zAV) (w118 : Int32) : zev cc_X11_count G 0 krI (zE 114 (.aload_n 0) 1 :: zEf 115 (.getfield 7) 3 11 1 149 (2, 42, 0) :: zEk 118 (.iconst 5) 1 w118 :: es) σ [vR 11 0, y1] [] = zev cc_X11_count G 0 krI es σ [vR 11 0, y1] [vI w118, vR 42 0] := rfl
theorem t_X11_count_121 {G : Nat → zH → List zAV → List zAV → Option (zH × Int32)} (es : List zEnt) (σ : zH)  (y1 : zAV) (w125 : Int32) : zev cc_X11_count G 0 krI (zE 121 (.aload_n 0) 1 :: zEf 122 (.getfield 7) 3 11 1 149 (2, 42, 0) :: zEk 125 (.bipush 6) 2 w125 :: es) σ [vR 11 0, y1] [] = zev cc_X11_count G 0 krI es σ [vR 11 0, y1] [vI w125, vR 42 0] := rfl
theorem t_X11_count_129 {G : Nat → zH → List zAV → List zAV → Option (zH × Int32)} (es : List zEnt) (σ : zH)  (y1 : zAV) (w133 : Int32) : zev cc_X11_count G 0 krI (zE 129 (.aload_n 0) 1 :: zEf 130 (.getfield 7) 3 11 1 149 (2, 42, 0) :: zEk 133 (.bipush 7) 2 w133 :: es) σ [vR 11 0, y1] [] = zev cc_X11_count G 0 krI es σ [vR 11 0, y1] [vI w133, vR 42 0] := rfl
theorem t_X11_count_137 {G : Nat → zH → List zAV → List zAV → Option (zH × Int32)} (es : List zEnt) (σ : zH)  (y1 : zAV) (w141 : Int32) : zev cc_X11_count G 0 krI (zE 137 (.aload_n 0) 1 :: zEf 138 (.getfield 7) 3 11 1 149 (2, 42, 0) :: zEk 141 (.bipush 8) 2 w141 :: es) σ [vR 11 0, y1] [] = zev cc_X11_count G 0 krI es σ [vR 11 0, y1] [vI w141, vR 42 0] := rfl
theorem t_X11_count_145 {G : Nat → zH → List zAV → List zAV → Option (zH × Int32)} (es : List zEnt) (σ : zH)  (y1 : zAV) (w149 : Int32) : zev cc_X11_count G 0 krI (zE 145 (.aload_n 0) 1 :: zEf 146 (.getfield 7) 3 11 1 149 (2, 42, 0) :: zEk 149 (.bipush 9) 2 w149 :: es) σ [vR 11 0, y1] [] = zev cc_X11_count G 0 krI es σ [vR 11 0, y1] [vI w149, vR 42 0] := rfl
theorem t_X11_count_153 {G : Nat → zH → List zAV → List zAV → Option (zH × Int32)} (es : List zEnt) (σ : zH)  (y1 : zAV) (w157 : Int32) : zev cc_X11_count G 0 krI (zE 153 (.aload_n 0) 1 :: zEf 154 (.getfield 7) 3 11 1 149 (2, 42, 0) :: zEk 157 (.bipush 10) 2 w157 :: es) σ [vR 11 0, y1] [] = zev cc_X11_count G 0 krI es σ [vR 11 0, y1] [vI w157, vR 42 0] := rfl
theorem t_X11_count_161 {G : Nat → zH → List zAV → List zAV → Option (zH × Int32)} (es : List zEnt) (σ : zH)  (y1 : zAV)  : zev cc_X11_count G 0 krI (zE 161 (.aload_n 0) 1 :: zEf 162 (.getfield 181) 3 11 30 178 (0, 0, 0) :: es) σ [vR 11 0, y1] [] = zev cc_X11_count G 0 krI es σ [vR 11 0, y1] [vI (σ.1 11 0 30)] := rfl
theorem t_X11_count_166 {G : Nat → zH → List zAV → List zAV → Option (zH × Int32)} (es : List zEnt) (σ : zH)  (y1 : zAV) (w170 : Int32) : zev cc_X11_count G 0 krI (zE 166 (.aload_n 0) 1 :: zEf 167 (.getfield 7) 3 11 1 149 (2, 42, 0) :: zEk 170 (.iconst 3) 1 w170 :: es) σ [vR 11 0, y1] [] = zev cc_X11_count G 0 krI es σ [vR 11 0, y1] [vI w170, vR 42 0] := rfl
theorem t_X11_count_173 {G : Nat → zH → List zAV → List zAV → Option (zH × Int32)} (es : List zEnt) (σ : zH)  (y0 : zAV) (y1 : zAV) (w173 : Int32) : zev cc_X11_count G 0 krI (zEk 173 (.iconst (-1)) 1 w173 :: es) σ [y0, y1] [] = zev cc_X11_count G 0 krI es σ [y0, y1] [vI w173] := rfl
noncomputable def d_X11_count (σ : zH) (xa1 : Int32) : Option (zH × Int32) :=
  if xa1 = (0 : Int32) then
    some (σ, (σ.1 42 0 0))
  else if xa1 = (1 : Int32) then
    some (σ, (σ.1 42 0 1))
  else if xa1 = (2 : Int32) then
    some (σ, (σ.1 42 0 2))
  else if xa1 = (3 : Int32) then
    some (σ, (σ.1 11 0 34))
  else if xa1 = (4 : Int32) then
    some (σ, (σ.1 42 0 4))
  else if xa1 = (5 : Int32) then
    (d_X11_upSet σ).bind fun p1 =>
    (d_X11_menOf p1.1 p1.2).bind fun p2 =>
    some (p2.1, p2.2)
  else if xa1 = (6 : Int32) then
    some (σ, (σ.1 42 0 5))
  else if xa1 = (7 : Int32) then
    some (σ, (σ.1 42 0 6))
  else if xa1 = (8 : Int32) then
    some (σ, (σ.1 42 0 7))
  else if xa1 = (9 : Int32) then
    some (σ, (σ.1 42 0 8))
  else if xa1 = (10 : Int32) then
    some (σ, (σ.1 42 0 9))
  else if xa1 = (11 : Int32) then
    some (σ, (σ.1 42 0 10))
  else if xa1 = (12 : Int32) then
    some (σ, (σ.1 11 0 30))
  else if xa1 = (13 : Int32) then
    some (σ, (σ.1 42 0 3))
  else 
    some (σ, (-1 : Int32))
theorem e_X11_count (σ : zH) (xa1 : Int32) : d_X11_count σ xa1 = zin cc_X11_count (fun t => none) 0 krI b_X11_count 0 σ [vR 11 0, vI xa1] [] := by
  unfold d_X11_count
  refine Eq.symm ((zin_b (es := q_X11_count_0) rfl).trans ?_)
  refine (t_X11_count_0 _ _ _).trans ?_
  refine x_tsw.trans ?_
  refine zsw_c ?_ ?_
  · refine (zrun_b (es := q_X11_count_72) rfl rfl).trans ?_
    refine (t_X11_count_72 _ _ _ _).trans ?_
    refine ((x_iald (N := 11) rfl rfl).trans (ix_l 0 (by decide +kernel))).trans ?_
    exact x_iret
  refine zsw_c ?_ ?_
  · refine (zrun_b (es := q_X11_count_79) rfl rfl).trans ?_
    refine (t_X11_count_79 _ _ _ _).trans ?_
    refine ((x_iald (N := 11) rfl rfl).trans (ix_l 1 (by decide +kernel))).trans ?_
    exact x_iret
  refine zsw_c ?_ ?_
  · refine (zrun_b (es := q_X11_count_86) rfl rfl).trans ?_
    refine (t_X11_count_86 _ _ _ _).trans ?_
    refine ((x_iald (N := 11) rfl rfl).trans (ix_l 2 (by decide +kernel))).trans ?_
    exact x_iret
  refine zsw_c ?_ ?_
  · refine (zrun_b (es := q_X11_count_93) rfl rfl).trans ?_
    refine (t_X11_count_93 _ _ _).trans ?_
    exact x_iret
  refine zsw_c ?_ ?_
  · refine (zrun_b (es := q_X11_count_98) rfl rfl).trans ?_
    refine (t_X11_count_98 _ _ _ _).trans ?_
    refine ((x_iald (N := 11) rfl rfl).trans (ix_l 4 (by decide +kernel))).trans ?_
    exact x_iret
  refine zsw_c ?_ ?_
  · refine (zrun_b (es := q_X11_count_105) rfl rfl).trans ?_
    refine (t_X11_count_105 _ _ _).trans ?_
    refine (x_callV rfl rfl rfl rfl).trans ((cl_X11_count_X11_upSet _ _ _).trans ((gr_X11_upSet _ _).trans (pbd fun _ => ?_)))
    refine (x_callV rfl rfl rfl rfl).trans ((cl_X11_count_X11_menOf _ _ _).trans ((gr_X11_menOf _ _ _).trans (pbd fun _ => ?_)))
    exact x_iret
  refine zsw_c ?_ ?_
  · refine (zrun_b (es := q_X11_count_114) rfl rfl).trans ?_
    refine (t_X11_count_114 _ _ _ _).trans ?_
    refine ((x_iald (N := 11) rfl rfl).trans (ix_l 5 (by decide +kernel))).trans ?_
    exact x_iret
  refine zsw_c ?_ ?_
  · refine (zrun_b (es := q_X11_count_121) rfl rfl).trans ?_
    refine (t_X11_count_121 _ _ _ _).trans ?_
    refine ((x_iald (N := 11) rfl rfl).trans (ix_l 6 (by decide +kernel))).trans ?_
    exact x_iret
  refine zsw_c ?_ ?_
  · refine (zrun_b (es := q_X11_count_129) rfl rfl).trans ?_
    refine (t_X11_count_129 _ _ _ _).trans ?_
    refine ((x_iald (N := 11) rfl rfl).trans (ix_l 7 (by decide +kernel))).trans ?_
    exact x_iret
  refine zsw_c ?_ ?_
  · refine (zrun_b (es := q_X11_count_137) rfl rfl).trans ?_
    refine (t_X11_count_137 _ _ _ _).trans ?_
    refine ((x_iald (N := 11) rfl rfl).trans (ix_l 8 (by decide +kernel))).trans ?_
    exact x_iret
  refine zsw_c ?_ ?_
  · refine (zrun_b (es := q_X11_count_145) rfl rfl).trans ?_
    refine (t_X11_count_145 _ _ _ _).trans ?_
    refine ((x_iald (N := 11) rfl rfl).trans (ix_l 9 (by decide +kernel))).trans ?_
    exact x_iret
  refine zsw_c ?_ ?_
  · refine (zrun_b (es := q_X11_count_153) rfl rfl).trans ?_
    refine (t_X11_count_153 _ _ _ _).trans ?_
    refine ((x_iald (N := 11) rfl rfl).trans (ix_l 10 (by decide +kernel))).trans ?_
    exact x_iret
  refine zsw_c ?_ ?_
  · refine (zrun_b (es := q_X11_count_161) rfl rfl).trans ?_
    refine (t_X11_count_161 _ _ _).trans ?_
    exact x_iret
  refine zsw_c ?_ ?_
  · refine (zrun_b (es := q_X11_count_166) rfl rfl).trans ?_
    refine (t_X11_count_166 _ _ _ _).trans ?_
    refine ((x_iald (N := 11) rfl rfl).trans (ix_l 3 (by decide +kernel))).trans ?_
    exact x_iret
  refine zsw_n ?_
  refine (zrun_b (es := q_X11_count_173) rfl rfl).trans ?_
  refine (t_X11_count_173 _ _ _ _ _).trans ?_
  exact x_iret
noncomputable def g_X11_count {ρ : Type} (σ : zH) (av : List zAV) (q : zH → zAV → Option ρ) : Option ρ := match av with
  | [.inr (.inr (.inl (11, 0))), .inl xa1] => (d_X11_count σ xa1).bind fun p => q p.1 (vI p.2)
  | _ => none
theorem gr_X11_count {ρ : Type} (σ : zH) (xa1 : Int32) (q : zH → zAV → Option ρ) : g_X11_count σ [vR 11 0, vI xa1] q = (d_X11_count σ xa1).bind fun p => q p.1 (vI p.2) := rfl
theorem c_X11_count {ρ : Type} {X : zX} (hX : zHX X) {σ : zH} {av : List zAV} {q : zH → zAV → Option ρ} {r : ρ} (h : g_X11_count σ av q = some r) (hv : ∀ a ∈ av, zval X a) : zcon X 214 σ av q r := by
  unfold g_X11_count at h
  split at h
  · exact zcon_I (n := 214) (ml := 2) (rc := 0) (st := 0) (kd := 11) (np := 1) (by decide +kernel) (by decide) ⟨_, _, rfl, rfl⟩ (Nat.le_of_ble_eq_true rfl) hv h (fun y h1 => (zin_ok (hy_X11_count hX) bk_X11_count (fun t f hf => by
      cases hf) ((e_X11_count _ _).symm.trans h1)))
  · cases h
/-! SleepWavesModel.carry([I)V -/
def q_X11_carry_0 : List zEnt := zEk 0 (.iconst 0) 1 0 :: zE 1 (.istore_n 2) 1 :: [zE 2 .nop 0]
def q_X11_carry_27 : List zEnt := zEa 27 (.goto 15) 3 42 :: []
def q_X11_carry_26 : List zEnt := zE 26 .iastore 1 :: q_X11_carry_27
def q_X11_carry_25 : List zEnt := zE 25 .iaload 1 :: q_X11_carry_26
def q_X11_carry_15 : List zEnt := zE 15 (.aload_n 1) 1 :: zE 16 (.iload_n 2) 1 :: zE 17 (.aload_n 0) 1 :: zEf 18 (.getfield 163) 3 11 63 211 (2, 90, 0) :: zE 21 (.aload_n 0) 1 :: zEf 22 (.getfield 478) 3 11 65 213 (0, 0, 0) :: q_X11_carry_25
def q_X11_carry_12 : List zEnt := zEa 12 (.ifCond .eq 18) 3 30 :: q_X11_carry_15
def q_X11_carry_8 : List zEnt := zE 8 (.aload_n 0) 1 :: zEf 9 (.getfield 475) 3 11 66 214 (0, 1, 0) :: q_X11_carry_12
def q_X11_carry_5 : List zEnt := zEa 5 (.if_icmp .ge 53) 3 58 :: q_X11_carry_8
def q_X11_carry_4 : List zEnt := zE 4 .arraylength 1 :: q_X11_carry_5
def q_X11_carry_2 : List zEnt := zE 2 (.iload_n 2) 1 :: zE 3 (.aload_n 1) 1 :: q_X11_carry_4
def q_X11_carry_41 : List zEnt := zE 41 .iastore 1 :: [zE 42 .nop 0]
def q_X11_carry_40 : List zEnt := zE 40 .iaload 1 :: q_X11_carry_41
def q_X11_carry_30 : List zEnt := zE 30 (.aload_n 0) 1 :: zEf 31 (.getfield 163) 3 11 63 211 (2, 90, 0) :: zE 34 (.aload_n 0) 1 :: zEf 35 (.getfield 478) 3 11 65 213 (0, 0, 0) :: zE 38 (.aload_n 1) 1 :: zE 39 (.iload_n 2) 1 :: q_X11_carry_40
def q_X11_carry_55 : List zEnt := zEa 55 (.goto (-53)) 3 2 :: []
def q_X11_carry_52 : List zEnt := zEk 52 (.iinc 2 1) 3 1 :: q_X11_carry_55
def q_X11_carry_49 : List zEnt := zEf 49 (.putfield 478) 3 11 65 213 (0, 0, 0) :: q_X11_carry_52
def q_X11_carry_42 : List zEnt := zE 42 (.aload_n 0) 1 :: zE 43 .dup 1 :: zEf 44 (.getfield 478) 3 11 65 213 (0, 0, 0) :: zEk 47 (.iconst 1) 1 1 :: zE 48 .iadd 1 :: q_X11_carry_49
def q_X11_carry_58 : List zEnt := zE 58 .return_ 1 :: []
def b_X11_carry : List (Nat × List zEnt) := [(0, q_X11_carry_0), (2, q_X11_carry_2), (30, q_X11_carry_30), (42, q_X11_carry_42), (58, q_X11_carry_58)]
theorem bk_X11_carry : zchB 215 b_X11_carry = true := by decide +kernel
theorem hy_X11_carry {ρ : Type} {X : zX} (hX : zHX X) : zHY X 215 (zc0 (ρ := ρ)) := zHX.hY hX (zc0_ok X) (zmok_all 215 (by decide))
def gl_X11_carry_2 {ρ : Type} (f : zH → Nat → Nat → Int32 → Option ρ) (σ : zH) (L st : List zAV) : Option ρ := match L, st with
  | [.inr (.inr (.inl (11, 0))), .inr (.inr (.inl (kd1, i1))), .inl x2], [] => f σ kd1 i1 x2
  | _, _ => none
def gl_X11_carry_42 {ρ : Type} (f : zH → Nat → Nat → Int32 → Option ρ) (σ : zH) (L st : List zAV) : Option ρ := match L, st with
  | [.inr (.inr (.inl (11, 0))), .inr (.inr (.inl (kd1, i1))), .inl x2], [] => f σ kd1 i1 x2
  | _, _ => none
theorem glr_X11_carry_2 {ρ : Type} (f : zH → Nat → Nat → Int32 → Option ρ) (σ : zH) (kd1 : Nat) (i1 : Nat) (x2 : Int32)  : gl_X11_carry_2 f σ [vR 11 0, vR kd1 i1, vI x2] [] = f σ kd1 i1 x2 := rfl
theorem glr_X11_carry_42 {ρ : Type} (f : zH → Nat → Nat → Int32 → Option ρ) (σ : zH) (kd1 : Nat) (i1 : Nat) (x2 : Int32)  : gl_X11_carry_42 f σ [vR 11 0, vR kd1 i1, vI x2] [] = f σ kd1 i1 x2 := rfl
theorem t_X11_carry_0 {G : Nat → zH → List zAV → List zAV → Option zH} (es : List zEnt) (σ : zH) (kd1 : Nat) (i1 : Nat) (y2 : zAV) (w0 : Int32) : zev zc0 G 9 krV (zEk 0 (.iconst 0) 1 w0 :: zE 1 (.istore_n 2) 1 :: es) σ [vR 11 0, vR kd1 i1, y2] [] = zev zc0 G 9 krV es σ [vR 11 0, vR kd1 i1, vI w0] [] := rfl
theorem t_X11_carry_2 {G : Nat → zH → List zAV → List zAV → Option zH} (es : List zEnt) (σ : zH) (kd1 : Nat) (i1 : Nat) (x2 : Int32)   : zev zc0 G 9 krV (zE 2 (.iload_n 2) 1 :: zE 3 (.aload_n 1) 1 :: es) σ [vR 11 0, vR kd1 i1, vI x2] [] = zev zc0 G 9 krV es σ [vR 11 0, vR kd1 i1, vI x2] [vR kd1 i1, vI x2] := rfl
theorem t_X11_carry_8 {G : Nat → zH → List zAV → List zAV → Option zH} (es : List zEnt) (σ : zH) (kd1 : Nat) (i1 : Nat) (x2 : Int32)   : zev zc0 G 9 krV (zE 8 (.aload_n 0) 1 :: zEf 9 (.getfield 475) 3 11 66 214 (0, 1, 0) :: es) σ [vR 11 0, vR kd1 i1, vI x2] [] = zev zc0 G 9 krV es σ [vR 11 0, vR kd1 i1, vI x2] [vI (σ.1 11 0 66)] := rfl
theorem t_X11_carry_15 {G : Nat → zH → List zAV → List zAV → Option zH} (es : List zEnt) (σ : zH) (kd1 : Nat) (i1 : Nat) (x2 : Int32)   : zev zc0 G 9 krV (zE 15 (.aload_n 1) 1 :: zE 16 (.iload_n 2) 1 :: zE 17 (.aload_n 0) 1 :: zEf 18 (.getfield 163) 3 11 63 211 (2, 90, 0) :: zE 21 (.aload_n 0) 1 :: zEf 22 (.getfield 478) 3 11 65 213 (0, 0, 0) :: es) σ [vR 11 0, vR kd1 i1, vI x2] [] = zev zc0 G 9 krV es σ [vR 11 0, vR kd1 i1, vI x2] [vI (σ.1 11 0 65), vR 90 0, vI x2, vR kd1 i1] := rfl
theorem t_X11_carry_30 {G : Nat → zH → List zAV → List zAV → Option zH} (es : List zEnt) (σ : zH) (kd1 : Nat) (i1 : Nat) (x2 : Int32)   : zev zc0 G 9 krV (zE 30 (.aload_n 0) 1 :: zEf 31 (.getfield 163) 3 11 63 211 (2, 90, 0) :: zE 34 (.aload_n 0) 1 :: zEf 35 (.getfield 478) 3 11 65 213 (0, 0, 0) :: zE 38 (.aload_n 1) 1 :: zE 39 (.iload_n 2) 1 :: es) σ [vR 11 0, vR kd1 i1, vI x2] [] = zev zc0 G 9 krV es σ [vR 11 0, vR kd1 i1, vI x2] [vI x2, vR kd1 i1, vI (σ.1 11 0 65), vR 90 0] := rfl
theorem t_X11_carry_42 {G : Nat → zH → List zAV → List zAV → Option zH} (es : List zEnt) (σ : zH) (kd1 : Nat) (i1 : Nat) (x2 : Int32)  (w47 : Int32) : zev zc0 G 9 krV (zE 42 (.aload_n 0) 1 :: zE 43 .dup 1 :: zEf 44 (.getfield 478) 3 11 65 213 (0, 0, 0) :: zEk 47 (.iconst 1) 1 w47 :: zE 48 .iadd 1 :: es) σ [vR 11 0, vR kd1 i1, vI x2] [] = zev zc0 G 9 krV es σ [vR 11 0, vR kd1 i1, vI x2] [vI ((σ.1 11 0 65) + w47), vR 11 0] := rfl
theorem t_X11_carry_52 {G : Nat → zH → List zAV → List zAV → Option zH} (es : List zEnt) (σ : zH) (kd1 : Nat) (i1 : Nat) (x2 : Int32)  (w52 : Int32) : zev zc0 G 9 krV (zEk 52 (.iinc 2 1) 3 w52 :: es) σ [vR 11 0, vR kd1 i1, vI x2] [] = zev zc0 G 9 krV es σ [vR 11 0, vR kd1 i1, vI (x2 + w52)] [] := rfl
noncomputable def j_X11_carry_42 (c2 : zH → Nat → Nat → Int32 → Option zH) (σ : zH) (kd1 : Nat) (i1 : Nat) (x2 : Int32) : Option zH :=
  zlet (uI σ 11 0 65 ((σ.1 11 0 65) + (1 : Int32))) fun σ1 =>
  c2 σ1 kd1 i1 (x2 + (1 : Int32))
theorem e_X11_carry_42 (c2 : zH → Nat → Nat → Int32 → Option zH) (σ : zH) (kd1 : Nat) (i1 : Nat) (x2 : Int32)  : j_X11_carry_42 c2 σ kd1 i1 x2 = zin zc0 (fun t => if t = 2 then some (gl_X11_carry_2 c2) else none) 9 krV b_X11_carry 42 σ [vR 11 0, vR kd1 i1, vI x2] [] := by
  unfold j_X11_carry_42
  refine Eq.symm ((zin_b (es := q_X11_carry_42) rfl).trans ?_)
  refine (t_X11_carry_42 _ _ _ _ _ _).trans ?_
  refine x_pf0.trans (plt fun _ => ?_)
  refine (t_X11_carry_52 _ _ _ _ _ _).trans ?_
  refine x_goto.trans ?_
  exact (zrun_c rfl).trans (glr_X11_carry_2 _ _ _ _ _)
theorem s_X11_carry_42 {X : zX} (hX : zHX X) {c2 : zH → Nat → Nat → Int32 → Option zH} (h2 : ∀ σ L st r, gl_X11_carry_2 c2 σ L st = some r → zGW X 215 krV 2 σ L st r) : ∀ σ L st r, gl_X11_carry_42 (j_X11_carry_42 c2) σ L st = some r → zGW X 215 krV 42 σ L st r := by
  intro σ L st r h
  unfold gl_X11_carry_42 at h
  split at h
  · exact zin_ok (hy_X11_carry hX) bk_X11_carry (fun t f hf => by
    by_cases e2 : t = 2
    · rw [if_pos e2] at hf; subst e2; cases hf; exact h2
    rw [if_neg e2] at hf
    cases hf) ((e_X11_carry_42 _ _ _ _ _).symm.trans h)
  · cases h
noncomputable def k_X11_carry_2  : Nat → zH → Nat → Nat → Int32 → Option zH
  | 0, _, _, _, _ => none
  | n + 1, σ, kd1, i1, x2 =>
    gd (Nat.ble (aT kd1) 6) <| if x2 < (Int32.ofNat (aN kd1)) then
      if (σ.1 11 0 66) = 0 then
        gd (aT kd1 == 0) <| ix x2 (aN kd1) fun j1 =>
        ix (σ.1 11 0 65) 1560 fun j3 =>
        zlet (uI σ 90 0 j3 (σ.1 kd1 i1 j1)) fun σ2 =>
        (j_X11_carry_42 (k_X11_carry_2 n)) σ2 kd1 i1 x2
      else
        ix (σ.1 11 0 65) 1560 fun j4 =>
        gd (aT kd1 == 0) <| ix x2 (aN kd1) fun j6 =>
        zlet (uI σ kd1 i1 j6 (σ.1 90 0 j4)) fun σ5 =>
        (j_X11_carry_42 (k_X11_carry_2 n)) σ5 kd1 i1 x2
    else
      some σ
theorem e_X11_carry_2  (n : Nat) (σ : zH) (kd1 : Nat) (i1 : Nat) (x2 : Int32)  : k_X11_carry_2 (n + 1) σ kd1 i1 x2 = zin zc0 (fun t => if t = 42 then some (gl_X11_carry_42 (j_X11_carry_42 (k_X11_carry_2 n))) else none) 9 krV b_X11_carry 2 σ [vR 11 0, vR kd1 i1, vI x2] [] := by
  rw [k_X11_carry_2]
  refine Eq.symm ((zin_b (es := q_X11_carry_2) rfl).trans ?_)
  refine (t_X11_carry_2 _ _ _ _ _).trans ?_
  refine x_alP.trans (pgd ?_)
  refine x_icmp.trans (pif_ge ?_ ?_)
  · refine (zrun_b (es := q_X11_carry_58) rfl rfl).trans ?_
    exact x_vret
  · refine (t_X11_carry_8 _ _ _ _ _).trans ?_
    refine x_if.trans (pif_eq ?_ ?_)
    · refine (zrun_b (es := q_X11_carry_30) rfl rfl).trans ?_
      refine (t_X11_carry_30 _ _ _ _ _).trans ?_
      refine x_iaP.trans (pgd (pix fun _ => ?_))
      refine (x_iast (N := 1560) rfl rfl).trans (pix fun _ => plt fun _ => ?_)
      refine x_cut.trans ?_
      exact (zrun_c rfl).trans (glr_X11_carry_42 _ _ _ _ _)
    · refine (t_X11_carry_15 _ _ _ _ _).trans ?_
      refine (x_iald (N := 1560) rfl rfl).trans (pix fun _ => ?_)
      refine x_iasP.trans (pgd (pix fun _ => plt fun _ => ?_))
      refine x_goto.trans ?_
      exact (zrun_c rfl).trans (glr_X11_carry_42 _ _ _ _ _)
theorem s_X11_carry_2 {X : zX} (hX : zHX X)   : ∀ n σ L st r, gl_X11_carry_2 (k_X11_carry_2 n) σ L st = some r → zGW X 215 krV 2 σ L st r := by
  intro n
  induction n with
  | zero =>
    intro σ L st r h
    unfold gl_X11_carry_2 at h
    split at h <;> cases h
  | succ n ih =>
    intro σ L st r h
    unfold gl_X11_carry_2 at h
    split at h
    · exact zin_ok (hy_X11_carry hX) bk_X11_carry (fun t f hf => by
      by_cases e42 : t = 42
      · rw [if_pos e42] at hf; subst e42; cases hf; exact (s_X11_carry_42 hX ih)
      rw [if_neg e42] at hf
      cases hf) ((e_X11_carry_2 _ _ _ _ _).symm.trans h)
    · cases h
noncomputable def d_X11_carry (σ : zH) (kda1 : Nat) (ia1 : Nat) : Option zH :=
  (k_X11_carry_2 zN) σ kda1 ia1 (0 : Int32)
theorem e_X11_carry (σ : zH) (kda1 : Nat) (ia1 : Nat) : d_X11_carry σ kda1 ia1 = zin zc0 (fun t => if t = 2 then some (gl_X11_carry_2 (k_X11_carry_2 zN)) else none) 9 krV b_X11_carry 0 σ [vR 11 0, vR kda1 ia1, vU] [] := by
  unfold d_X11_carry
  refine Eq.symm ((zin_b (es := q_X11_carry_0) rfl).trans ?_)
  refine (t_X11_carry_0 _ _ _ _ _ _).trans ?_
  refine x_cut.trans ?_
  exact (zrun_c rfl).trans (glr_X11_carry_2 _ _ _ _ _)
noncomputable def g_X11_carry {ρ : Type} (σ : zH) (av : List zAV) (q : zH → zAV → Option ρ) : Option ρ := match av with
  | [.inr (.inr (.inl (11, 0))), .inr (.inr (.inl (kda1, ia1)))] => (d_X11_carry σ kda1 ia1).bind fun σ => q σ vU
  | _ => none
theorem gr_X11_carry {ρ : Type} (σ : zH) (kda1 : Nat) (ia1 : Nat) (q : zH → zAV → Option ρ) : g_X11_carry σ [vR 11 0, vR kda1 ia1] q = (d_X11_carry σ kda1 ia1).bind fun σ => q σ vU := rfl
theorem c_X11_carry {ρ : Type} {X : zX} (hX : zHX X) {σ : zH} {av : List zAV} {q : zH → zAV → Option ρ} {r : ρ} (h : g_X11_carry σ av q = some r) (hv : ∀ a ∈ av, zval X a) : zcon X 215 σ av q r := by
  unfold g_X11_carry at h
  split at h
  · exact zcon_V (n := 215) (ml := 3) (rc := 9) (st := 0) (kd := 11) (np := 1) (by decide +kernel) rfl ⟨_, _, rfl, rfl⟩ (Nat.le_of_ble_eq_true rfl) hv h (fun y h1 => (zin_ok (hy_X11_carry hX) bk_X11_carry (fun t f hf => by
      by_cases e2 : t = 2
      · rw [if_pos e2] at hf; subst e2; cases hf; exact ((fun σ L st r h => s_X11_carry_2 hX  zN σ L st r h))
      rw [if_neg e2] at hf
      cases hf) ((e_X11_carry _ _ _).symm.trans h1)))
  · cases h
/-! SleepWavesModel.carriesAll(IZ)V -/
def q_X11_carriesAll_158 : List zEnt := zE 158 .return_ 1 :: []
def q_X11_carriesAll_155 : List zEnt := zEc 155 (.invokevirtual 481) 3 215 2 179 1 :: q_X11_carriesAll_158
def q_X11_carriesAll_150 : List zEnt := zE 150 (.aload_n 0) 1 :: zE 151 (.aload_n 0) 1 :: zEf 152 (.getfield 91) 3 11 28 176 (2, 69, 0) :: q_X11_carriesAll_155
def q_X11_carriesAll_147 : List zEnt := zEc 147 (.invokevirtual 481) 3 215 2 179 1 :: q_X11_carriesAll_150
def q_X11_carriesAll_142 : List zEnt := zE 142 (.aload_n 0) 1 :: zE 143 (.aload_n 0) 1 :: zEf 144 (.getfield 88) 3 11 27 175 (2, 68, 0) :: q_X11_carriesAll_147
def q_X11_carriesAll_139 : List zEnt := zEc 139 (.invokevirtual 481) 3 215 2 179 1 :: q_X11_carriesAll_142
def q_X11_carriesAll_134 : List zEnt := zE 134 (.aload_n 0) 1 :: zE 135 (.aload_n 0) 1 :: zEf 136 (.getfield 85) 3 11 26 174 (2, 67, 0) :: q_X11_carriesAll_139
def q_X11_carriesAll_131 : List zEnt := zEc 131 (.invokevirtual 481) 3 215 2 179 1 :: q_X11_carriesAll_134
def q_X11_carriesAll_126 : List zEnt := zE 126 (.aload_n 0) 1 :: zE 127 (.aload_n 0) 1 :: zEf 128 (.getfield 82) 3 11 25 173 (2, 66, 0) :: q_X11_carriesAll_131
def q_X11_carriesAll_123 : List zEnt := zEc 123 (.invokevirtual 481) 3 215 2 179 1 :: q_X11_carriesAll_126
def q_X11_carriesAll_118 : List zEnt := zE 118 (.aload_n 0) 1 :: zE 119 (.aload_n 0) 1 :: zEf 120 (.getfield 79) 3 11 24 172 (2, 65, 0) :: q_X11_carriesAll_123
def q_X11_carriesAll_115 : List zEnt := zEc 115 (.invokevirtual 481) 3 215 2 179 1 :: q_X11_carriesAll_118
def q_X11_carriesAll_110 : List zEnt := zE 110 (.aload_n 0) 1 :: zE 111 (.aload_n 0) 1 :: zEf 112 (.getfield 76) 3 11 23 171 (2, 64, 0) :: q_X11_carriesAll_115
def q_X11_carriesAll_107 : List zEnt := zEc 107 (.invokevirtual 481) 3 215 2 179 1 :: q_X11_carriesAll_110
def q_X11_carriesAll_102 : List zEnt := zE 102 (.aload_n 0) 1 :: zE 103 (.aload_n 0) 1 :: zEf 104 (.getfield 73) 3 11 22 170 (2, 63, 0) :: q_X11_carriesAll_107
def q_X11_carriesAll_99 : List zEnt := zEc 99 (.invokevirtual 481) 3 215 2 179 1 :: q_X11_carriesAll_102
def q_X11_carriesAll_94 : List zEnt := zE 94 (.aload_n 0) 1 :: zE 95 (.aload_n 0) 1 :: zEf 96 (.getfield 70) 3 11 21 169 (2, 62, 0) :: q_X11_carriesAll_99
def q_X11_carriesAll_91 : List zEnt := zEc 91 (.invokevirtual 481) 3 215 2 179 1 :: q_X11_carriesAll_94
def q_X11_carriesAll_86 : List zEnt := zE 86 (.aload_n 0) 1 :: zE 87 (.aload_n 0) 1 :: zEf 88 (.getfield 37) 3 11 10 158 (2, 51, 0) :: q_X11_carriesAll_91
def q_X11_carriesAll_83 : List zEnt := zEc 83 (.invokevirtual 481) 3 215 2 179 1 :: q_X11_carriesAll_86
def q_X11_carriesAll_78 : List zEnt := zE 78 (.aload_n 0) 1 :: zE 79 (.aload_n 0) 1 :: zEf 80 (.getfield 34) 3 11 9 157 (2, 50, 0) :: q_X11_carriesAll_83
def q_X11_carriesAll_75 : List zEnt := zEc 75 (.invokevirtual 481) 3 215 2 179 1 :: q_X11_carriesAll_78
def q_X11_carriesAll_70 : List zEnt := zE 70 (.aload_n 0) 1 :: zE 71 (.aload_n 0) 1 :: zEf 72 (.getfield 31) 3 11 8 156 (2, 49, 0) :: q_X11_carriesAll_75
def q_X11_carriesAll_67 : List zEnt := zEc 67 (.invokevirtual 481) 3 215 2 179 1 :: q_X11_carriesAll_70
def q_X11_carriesAll_62 : List zEnt := zE 62 (.aload_n 0) 1 :: zE 63 (.aload_n 0) 1 :: zEf 64 (.getfield 28) 3 11 7 155 (2, 48, 0) :: q_X11_carriesAll_67
def q_X11_carriesAll_59 : List zEnt := zEc 59 (.invokevirtual 481) 3 215 2 179 1 :: q_X11_carriesAll_62
def q_X11_carriesAll_54 : List zEnt := zE 54 (.aload_n 0) 1 :: zE 55 (.aload_n 0) 1 :: zEf 56 (.getfield 25) 3 11 6 154 (2, 47, 0) :: q_X11_carriesAll_59
def q_X11_carriesAll_51 : List zEnt := zEc 51 (.invokevirtual 481) 3 215 2 179 1 :: q_X11_carriesAll_54
def q_X11_carriesAll_46 : List zEnt := zE 46 (.aload_n 0) 1 :: zE 47 (.aload_n 0) 1 :: zEf 48 (.getfield 22) 3 11 5 153 (2, 46, 0) :: q_X11_carriesAll_51
def q_X11_carriesAll_43 : List zEnt := zEc 43 (.invokevirtual 481) 3 215 2 179 1 :: q_X11_carriesAll_46
def q_X11_carriesAll_38 : List zEnt := zE 38 (.aload_n 0) 1 :: zE 39 (.aload_n 0) 1 :: zEf 40 (.getfield 19) 3 11 4 152 (2, 45, 0) :: q_X11_carriesAll_43
def q_X11_carriesAll_35 : List zEnt := zEc 35 (.invokevirtual 481) 3 215 2 179 1 :: q_X11_carriesAll_38
def q_X11_carriesAll_30 : List zEnt := zE 30 (.aload_n 0) 1 :: zE 31 (.aload_n 0) 1 :: zEf 32 (.getfield 16) 3 11 3 151 (2, 44, 0) :: q_X11_carriesAll_35
def q_X11_carriesAll_27 : List zEnt := zEc 27 (.invokevirtual 481) 3 215 2 179 1 :: q_X11_carriesAll_30
def q_X11_carriesAll_22 : List zEnt := zE 22 (.aload_n 0) 1 :: zE 23 (.aload_n 0) 1 :: zEf 24 (.getfield 13) 3 11 2 150 (2, 43, 0) :: q_X11_carriesAll_27
def q_X11_carriesAll_19 : List zEnt := zEc 19 (.invokevirtual 481) 3 215 2 179 1 :: q_X11_carriesAll_22
def q_X11_carriesAll_14 : List zEnt := zE 14 (.aload_n 0) 1 :: zE 15 (.aload_n 0) 1 :: zEf 16 (.getfield 7) 3 11 1 149 (2, 42, 0) :: q_X11_carriesAll_19
def q_X11_carriesAll_11 : List zEnt := zEf 11 (.putfield 475) 3 11 66 214 (0, 1, 0) :: q_X11_carriesAll_14
def q_X11_carriesAll_9 : List zEnt := zE 9 (.aload_n 0) 1 :: zE 10 (.iload_n 2) 1 :: q_X11_carriesAll_11
def q_X11_carriesAll_6 : List zEnt := zEf 6 (.putfield 478) 3 11 65 213 (0, 0, 0) :: q_X11_carriesAll_9
def q_X11_carriesAll_0 : List zEnt := zE 0 (.aload_n 0) 1 :: zEk 1 (.sipush 390) 3 390 :: zE 4 (.iload_n 1) 1 :: zE 5 .imul 1 :: q_X11_carriesAll_6
def b_X11_carriesAll : List (Nat × List zEnt) := [(0, q_X11_carriesAll_0)]
theorem bk_X11_carriesAll : zchB 216 b_X11_carriesAll = true := by decide +kernel
noncomputable def cc_X11_carriesAll {ρ : Type} : Nat → zH → List zAV → (zH → zAV → Option ρ) → Option ρ := fun n σ av q => if n = 215 then g_X11_carry σ av q else none
theorem cs_X11_carriesAll {ρ : Type} {X : zX} (hX : zHX X) : zCS X (cc_X11_carriesAll (ρ := ρ)) := by
  intro n σ av q r h hv
  unfold cc_X11_carriesAll at h
  by_cases e_X11_carry : n = 215
  · rw [if_pos e_X11_carry] at h
    subst e_X11_carry
    exact c_X11_carry hX h hv
  rw [if_neg e_X11_carry] at h
  cases h
theorem cl_X11_carriesAll_X11_carry {ρ : Type} (σ : zH) (av : List zAV) (q : zH → zAV → Option ρ) : cc_X11_carriesAll 215 σ av q = g_X11_carry σ av q := rfl
theorem hy_X11_carriesAll {ρ : Type} {X : zX} (hX : zHX X) : zHY X 216 (cc_X11_carriesAll (ρ := ρ)) := zHX.hY hX (cs_X11_carriesAll hX) (zmok_all 216 (by decide))
theorem t_X11_carriesAll_0 {G : Nat → zH → List zAV → List zAV → Option zH} (es : List zEnt) (σ : zH) (x1 : Int32) (x2 : Int32)  (w1 : Int32) : zev cc_X11_carriesAll G 9 krV (zE 0 (.aload_n 0) 1 :: zEk 1 (.sipush 390) 3 w1 :: zE 4 (.iload_n 1) 1 :: zE 5 .imul 1 :: es) σ [vR 11 0, vI x1, vI x2] [] = zev cc_X11_carriesAll G 9 krV es σ [vR 11 0, vI x1, vI x2] [vI (w1 * x1), vR 11 0] := rfl
theorem t_X11_carriesAll_9 {G : Nat → zH → List zAV → List zAV → Option zH} (es : List zEnt) (σ : zH) (x2 : Int32) (y1 : zAV)  : zev cc_X11_carriesAll G 9 krV (zE 9 (.aload_n 0) 1 :: zE 10 (.iload_n 2) 1 :: es) σ [vR 11 0, y1, vI x2] [] = zev cc_X11_carriesAll G 9 krV es σ [vR 11 0, y1, vI x2] [vI x2, vR 11 0] := rfl
theorem t_X11_carriesAll_14 {G : Nat → zH → List zAV → List zAV → Option zH} (es : List zEnt) (σ : zH)  (y1 : zAV) (y2 : zAV)  : zev cc_X11_carriesAll G 9 krV (zE 14 (.aload_n 0) 1 :: zE 15 (.aload_n 0) 1 :: zEf 16 (.getfield 7) 3 11 1 149 (2, 42, 0) :: es) σ [vR 11 0, y1, y2] [] = zev cc_X11_carriesAll G 9 krV es σ [vR 11 0, y1, y2] [vR 42 0, vR 11 0] := rfl
theorem t_X11_carriesAll_22 {G : Nat → zH → List zAV → List zAV → Option zH} (es : List zEnt) (σ : zH)  (y1 : zAV) (y2 : zAV)  : zev cc_X11_carriesAll G 9 krV (zE 22 (.aload_n 0) 1 :: zE 23 (.aload_n 0) 1 :: zEf 24 (.getfield 13) 3 11 2 150 (2, 43, 0) :: es) σ [vR 11 0, y1, y2] [] = zev cc_X11_carriesAll G 9 krV es σ [vR 11 0, y1, y2] [vR 43 0, vR 11 0] := rfl
theorem t_X11_carriesAll_30 {G : Nat → zH → List zAV → List zAV → Option zH} (es : List zEnt) (σ : zH)  (y1 : zAV) (y2 : zAV)  : zev cc_X11_carriesAll G 9 krV (zE 30 (.aload_n 0) 1 :: zE 31 (.aload_n 0) 1 :: zEf 32 (.getfield 16) 3 11 3 151 (2, 44, 0) :: es) σ [vR 11 0, y1, y2] [] = zev cc_X11_carriesAll G 9 krV es σ [vR 11 0, y1, y2] [vR 44 0, vR 11 0] := rfl
theorem t_X11_carriesAll_38 {G : Nat → zH → List zAV → List zAV → Option zH} (es : List zEnt) (σ : zH)  (y1 : zAV) (y2 : zAV)  : zev cc_X11_carriesAll G 9 krV (zE 38 (.aload_n 0) 1 :: zE 39 (.aload_n 0) 1 :: zEf 40 (.getfield 19) 3 11 4 152 (2, 45, 0) :: es) σ [vR 11 0, y1, y2] [] = zev cc_X11_carriesAll G 9 krV es σ [vR 11 0, y1, y2] [vR 45 0, vR 11 0] := rfl
theorem t_X11_carriesAll_46 {G : Nat → zH → List zAV → List zAV → Option zH} (es : List zEnt) (σ : zH)  (y1 : zAV) (y2 : zAV)  : zev cc_X11_carriesAll G 9 krV (zE 46 (.aload_n 0) 1 :: zE 47 (.aload_n 0) 1 :: zEf 48 (.getfield 22) 3 11 5 153 (2, 46, 0) :: es) σ [vR 11 0, y1, y2] [] = zev cc_X11_carriesAll G 9 krV es σ [vR 11 0, y1, y2] [vR 46 0, vR 11 0] := rfl
theorem t_X11_carriesAll_54 {G : Nat → zH → List zAV → List zAV → Option zH} (es : List zEnt) (σ : zH)  (y1 : zAV) (y2 : zAV)  : zev cc_X11_carriesAll G 9 krV (zE 54 (.aload_n 0) 1 :: zE 55 (.aload_n 0) 1 :: zEf 56 (.getfield 25) 3 11 6 154 (2, 47, 0) :: es) σ [vR 11 0, y1, y2] [] = zev cc_X11_carriesAll G 9 krV es σ [vR 11 0, y1, y2] [vR 47 0, vR 11 0] := rfl
theorem t_X11_carriesAll_62 {G : Nat → zH → List zAV → List zAV → Option zH} (es : List zEnt) (σ : zH)  (y1 : zAV) (y2 : zAV)  : zev cc_X11_carriesAll G 9 krV (zE 62 (.aload_n 0) 1 :: zE 63 (.aload_n 0) 1 :: zEf 64 (.getfield 28) 3 11 7 155 (2, 48, 0) :: es) σ [vR 11 0, y1, y2] [] = zev cc_X11_carriesAll G 9 krV es σ [vR 11 0, y1, y2] [vR 48 0, vR 11 0] := rfl
theorem t_X11_carriesAll_70 {G : Nat → zH → List zAV → List zAV → Option zH} (es : List zEnt) (σ : zH)  (y1 : zAV) (y2 : zAV)  : zev cc_X11_carriesAll G 9 krV (zE 70 (.aload_n 0) 1 :: zE 71 (.aload_n 0) 1 :: zEf 72 (.getfield 31) 3 11 8 156 (2, 49, 0) :: es) σ [vR 11 0, y1, y2] [] = zev cc_X11_carriesAll G 9 krV es σ [vR 11 0, y1, y2] [vR 49 0, vR 11 0] := rfl
theorem t_X11_carriesAll_78 {G : Nat → zH → List zAV → List zAV → Option zH} (es : List zEnt) (σ : zH)  (y1 : zAV) (y2 : zAV)  : zev cc_X11_carriesAll G 9 krV (zE 78 (.aload_n 0) 1 :: zE 79 (.aload_n 0) 1 :: zEf 80 (.getfield 34) 3 11 9 157 (2, 50, 0) :: es) σ [vR 11 0, y1, y2] [] = zev cc_X11_carriesAll G 9 krV es σ [vR 11 0, y1, y2] [vR 50 0, vR 11 0] := rfl
theorem t_X11_carriesAll_86 {G : Nat → zH → List zAV → List zAV → Option zH} (es : List zEnt) (σ : zH)  (y1 : zAV) (y2 : zAV)  : zev cc_X11_carriesAll G 9 krV (zE 86 (.aload_n 0) 1 :: zE 87 (.aload_n 0) 1 :: zEf 88 (.getfield 37) 3 11 10 158 (2, 51, 0) :: es) σ [vR 11 0, y1, y2] [] = zev cc_X11_carriesAll G 9 krV es σ [vR 11 0, y1, y2] [vR 51 0, vR 11 0] := rfl
theorem t_X11_carriesAll_94 {G : Nat → zH → List zAV → List zAV → Option zH} (es : List zEnt) (σ : zH)  (y1 : zAV) (y2 : zAV)  : zev cc_X11_carriesAll G 9 krV (zE 94 (.aload_n 0) 1 :: zE 95 (.aload_n 0) 1 :: zEf 96 (.getfield 70) 3 11 21 169 (2, 62, 0) :: es) σ [vR 11 0, y1, y2] [] = zev cc_X11_carriesAll G 9 krV es σ [vR 11 0, y1, y2] [vR 62 0, vR 11 0] := rfl
theorem t_X11_carriesAll_102 {G : Nat → zH → List zAV → List zAV → Option zH} (es : List zEnt) (σ : zH)  (y1 : zAV) (y2 : zAV)  : zev cc_X11_carriesAll G 9 krV (zE 102 (.aload_n 0) 1 :: zE 103 (.aload_n 0) 1 :: zEf 104 (.getfield 73) 3 11 22 170 (2, 63, 0) :: es) σ [vR 11 0, y1, y2] [] = zev cc_X11_carriesAll G 9 krV es σ [vR 11 0, y1, y2] [vR 63 0, vR 11 0] := rfl
theorem t_X11_carriesAll_110 {G : Nat → zH → List zAV → List zAV → Option zH} (es : List zEnt) (σ : zH)  (y1 : zAV) (y2 : zAV)  : zev cc_X11_carriesAll G 9 krV (zE 110 (.aload_n 0) 1 :: zE 111 (.aload_n 0) 1 :: zEf 112 (.getfield 76) 3 11 23 171 (2, 64, 0) :: es) σ [vR 11 0, y1, y2] [] = zev cc_X11_carriesAll G 9 krV es σ [vR 11 0, y1, y2] [vR 64 0, vR 11 0] := rfl
theorem t_X11_carriesAll_118 {G : Nat → zH → List zAV → List zAV → Option zH} (es : List zEnt) (σ : zH)  (y1 : zAV) (y2 : zAV)  : zev cc_X11_carriesAll G 9 krV (zE 118 (.aload_n 0) 1 :: zE 119 (.aload_n 0) 1 :: zEf 120 (.getfield 79) 3 11 24 172 (2, 65, 0) :: es) σ [vR 11 0, y1, y2] [] = zev cc_X11_carriesAll G 9 krV es σ [vR 11 0, y1, y2] [vR 65 0, vR 11 0] := rfl
theorem t_X11_carriesAll_126 {G : Nat → zH → List zAV → List zAV → Option zH} (es : List zEnt) (σ : zH)  (y1 : zAV) (y2 : zAV)  : zev cc_X11_carriesAll G 9 krV (zE 126 (.aload_n 0) 1 :: zE 127 (.aload_n 0) 1 :: zEf 128 (.getfield 82) 3 11 25 173 (2, 66, 0) :: es) σ [vR 11 0, y1, y2] [] = zev cc_X11_carriesAll G 9 krV es σ [vR 11 0, y1, y2] [vR 66 0, vR 11 0] := rfl
theorem t_X11_carriesAll_134 {G : Nat → zH → List zAV → List zAV → Option zH} (es : List zEnt) (σ : zH)  (y1 : zAV) (y2 : zAV)  : zev cc_X11_carriesAll G 9 krV (zE 134 (.aload_n 0) 1 :: zE 135 (.aload_n 0) 1 :: zEf 136 (.getfield 85) 3 11 26 174 (2, 67, 0) :: es) σ [vR 11 0, y1, y2] [] = zev cc_X11_carriesAll G 9 krV es σ [vR 11 0, y1, y2] [vR 67 0, vR 11 0] := rfl
theorem t_X11_carriesAll_142 {G : Nat → zH → List zAV → List zAV → Option zH} (es : List zEnt) (σ : zH)  (y1 : zAV) (y2 : zAV)  : zev cc_X11_carriesAll G 9 krV (zE 142 (.aload_n 0) 1 :: zE 143 (.aload_n 0) 1 :: zEf 144 (.getfield 88) 3 11 27 175 (2, 68, 0) :: es) σ [vR 11 0, y1, y2] [] = zev cc_X11_carriesAll G 9 krV es σ [vR 11 0, y1, y2] [vR 68 0, vR 11 0] := rfl
theorem t_X11_carriesAll_150 {G : Nat → zH → List zAV → List zAV → Option zH} (es : List zEnt) (σ : zH)  (y1 : zAV) (y2 : zAV)  : zev cc_X11_carriesAll G 9 krV (zE 150 (.aload_n 0) 1 :: zE 151 (.aload_n 0) 1 :: zEf 152 (.getfield 91) 3 11 28 176 (2, 69, 0) :: es) σ [vR 11 0, y1, y2] [] = zev cc_X11_carriesAll G 9 krV es σ [vR 11 0, y1, y2] [vR 69 0, vR 11 0] := rfl
noncomputable def d_X11_carriesAll (σ : zH) (xa1 : Int32) (xa2 : Int32) : Option zH :=
  zlet (uI σ 11 0 65 ((390 : Int32) * xa1)) fun σ1 =>
  tv xa2 <| zlet (uI σ1 11 0 66 xa2) fun σ2 =>
  (d_X11_carry σ2 42 0).bind fun σ3 =>
  (d_X11_carry σ3 43 0).bind fun σ4 =>
  (d_X11_carry σ4 44 0).bind fun σ5 =>
  (d_X11_carry σ5 45 0).bind fun σ6 =>
  (d_X11_carry σ6 46 0).bind fun σ7 =>
  (d_X11_carry σ7 47 0).bind fun σ8 =>
  (d_X11_carry σ8 48 0).bind fun σ9 =>
  (d_X11_carry σ9 49 0).bind fun σ10 =>
  (d_X11_carry σ10 50 0).bind fun σ11 =>
  (d_X11_carry σ11 51 0).bind fun σ12 =>
  (d_X11_carry σ12 62 0).bind fun σ13 =>
  (d_X11_carry σ13 63 0).bind fun σ14 =>
  (d_X11_carry σ14 64 0).bind fun σ15 =>
  (d_X11_carry σ15 65 0).bind fun σ16 =>
  (d_X11_carry σ16 66 0).bind fun σ17 =>
  (d_X11_carry σ17 67 0).bind fun σ18 =>
  (d_X11_carry σ18 68 0).bind fun σ19 =>
  (d_X11_carry σ19 69 0).bind fun σ20 =>
  some σ20
theorem e_X11_carriesAll (σ : zH) (xa1 : Int32) (xa2 : Int32) : d_X11_carriesAll σ xa1 xa2 = zin cc_X11_carriesAll (fun t => none) 9 krV b_X11_carriesAll 0 σ [vR 11 0, vI xa1, vI xa2] [] := by
  unfold d_X11_carriesAll
  refine Eq.symm ((zin_b (es := q_X11_carriesAll_0) rfl).trans ?_)
  refine (t_X11_carriesAll_0 _ _ _ _ _).trans ?_
  refine x_pf0.trans (plt fun _ => ?_)
  refine (t_X11_carriesAll_9 _ _ _ _).trans ?_
  refine x_pf1.trans (ptv (plt fun _ => ?_))
  refine (t_X11_carriesAll_14 _ _ _ _).trans ?_
  refine (x_callV rfl rfl rfl rfl).trans ((cl_X11_carriesAll_X11_carry _ _ _).trans ((gr_X11_carry _ _ _ _).trans (pbd fun _ => ?_)))
  refine (t_X11_carriesAll_22 _ _ _ _).trans ?_
  refine (x_callV rfl rfl rfl rfl).trans ((cl_X11_carriesAll_X11_carry _ _ _).trans ((gr_X11_carry _ _ _ _).trans (pbd fun _ => ?_)))
  refine (t_X11_carriesAll_30 _ _ _ _).trans ?_
  refine (x_callV rfl rfl rfl rfl).trans ((cl_X11_carriesAll_X11_carry _ _ _).trans ((gr_X11_carry _ _ _ _).trans (pbd fun _ => ?_)))
  refine (t_X11_carriesAll_38 _ _ _ _).trans ?_
  refine (x_callV rfl rfl rfl rfl).trans ((cl_X11_carriesAll_X11_carry _ _ _).trans ((gr_X11_carry _ _ _ _).trans (pbd fun _ => ?_)))
  refine (t_X11_carriesAll_46 _ _ _ _).trans ?_
  refine (x_callV rfl rfl rfl rfl).trans ((cl_X11_carriesAll_X11_carry _ _ _).trans ((gr_X11_carry _ _ _ _).trans (pbd fun _ => ?_)))
  refine (t_X11_carriesAll_54 _ _ _ _).trans ?_
  refine (x_callV rfl rfl rfl rfl).trans ((cl_X11_carriesAll_X11_carry _ _ _).trans ((gr_X11_carry _ _ _ _).trans (pbd fun _ => ?_)))
  refine (t_X11_carriesAll_62 _ _ _ _).trans ?_
  refine (x_callV rfl rfl rfl rfl).trans ((cl_X11_carriesAll_X11_carry _ _ _).trans ((gr_X11_carry _ _ _ _).trans (pbd fun _ => ?_)))
  refine (t_X11_carriesAll_70 _ _ _ _).trans ?_
  refine (x_callV rfl rfl rfl rfl).trans ((cl_X11_carriesAll_X11_carry _ _ _).trans ((gr_X11_carry _ _ _ _).trans (pbd fun _ => ?_)))
  refine (t_X11_carriesAll_78 _ _ _ _).trans ?_
  refine (x_callV rfl rfl rfl rfl).trans ((cl_X11_carriesAll_X11_carry _ _ _).trans ((gr_X11_carry _ _ _ _).trans (pbd fun _ => ?_)))
  refine (t_X11_carriesAll_86 _ _ _ _).trans ?_
  refine (x_callV rfl rfl rfl rfl).trans ((cl_X11_carriesAll_X11_carry _ _ _).trans ((gr_X11_carry _ _ _ _).trans (pbd fun _ => ?_)))
  refine (t_X11_carriesAll_94 _ _ _ _).trans ?_
  refine (x_callV rfl rfl rfl rfl).trans ((cl_X11_carriesAll_X11_carry _ _ _).trans ((gr_X11_carry _ _ _ _).trans (pbd fun _ => ?_)))
  refine (t_X11_carriesAll_102 _ _ _ _).trans ?_
  refine (x_callV rfl rfl rfl rfl).trans ((cl_X11_carriesAll_X11_carry _ _ _).trans ((gr_X11_carry _ _ _ _).trans (pbd fun _ => ?_)))
  refine (t_X11_carriesAll_110 _ _ _ _).trans ?_
  refine (x_callV rfl rfl rfl rfl).trans ((cl_X11_carriesAll_X11_carry _ _ _).trans ((gr_X11_carry _ _ _ _).trans (pbd fun _ => ?_)))
  refine (t_X11_carriesAll_118 _ _ _ _).trans ?_
  refine (x_callV rfl rfl rfl rfl).trans ((cl_X11_carriesAll_X11_carry _ _ _).trans ((gr_X11_carry _ _ _ _).trans (pbd fun _ => ?_)))
  refine (t_X11_carriesAll_126 _ _ _ _).trans ?_
  refine (x_callV rfl rfl rfl rfl).trans ((cl_X11_carriesAll_X11_carry _ _ _).trans ((gr_X11_carry _ _ _ _).trans (pbd fun _ => ?_)))
  refine (t_X11_carriesAll_134 _ _ _ _).trans ?_
  refine (x_callV rfl rfl rfl rfl).trans ((cl_X11_carriesAll_X11_carry _ _ _).trans ((gr_X11_carry _ _ _ _).trans (pbd fun _ => ?_)))
  refine (t_X11_carriesAll_142 _ _ _ _).trans ?_
  refine (x_callV rfl rfl rfl rfl).trans ((cl_X11_carriesAll_X11_carry _ _ _).trans ((gr_X11_carry _ _ _ _).trans (pbd fun _ => ?_)))
  refine (t_X11_carriesAll_150 _ _ _ _).trans ?_
  refine (x_callV rfl rfl rfl rfl).trans ((cl_X11_carriesAll_X11_carry _ _ _).trans ((gr_X11_carry _ _ _ _).trans (pbd fun _ => ?_)))
  exact x_vret
noncomputable def g_X11_carriesAll {ρ : Type} (σ : zH) (av : List zAV) (q : zH → zAV → Option ρ) : Option ρ := match av with
  | [.inr (.inr (.inl (11, 0))), .inl xa1, .inl xa2] => (d_X11_carriesAll σ xa1 xa2).bind fun σ => q σ vU
  | _ => none
theorem gr_X11_carriesAll {ρ : Type} (σ : zH) (xa1 : Int32) (xa2 : Int32) (q : zH → zAV → Option ρ) : g_X11_carriesAll σ [vR 11 0, vI xa1, vI xa2] q = (d_X11_carriesAll σ xa1 xa2).bind fun σ => q σ vU := rfl
theorem c_X11_carriesAll {ρ : Type} {X : zX} (hX : zHX X) {σ : zH} {av : List zAV} {q : zH → zAV → Option ρ} {r : ρ} (h : g_X11_carriesAll σ av q = some r) (hv : ∀ a ∈ av, zval X a) : zcon X 216 σ av q r := by
  unfold g_X11_carriesAll at h
  split at h
  · exact zcon_V (n := 216) (ml := 3) (rc := 9) (st := 0) (kd := 11) (np := 2) (by decide +kernel) rfl ⟨_, _, rfl, rfl⟩ (Nat.le_of_ble_eq_true rfl) hv h (fun y h1 => (zin_ok (hy_X11_carriesAll hX) bk_X11_carriesAll (fun t f hf => by
      cases hf) ((e_X11_carriesAll _ _ _).symm.trans h1)))
  · cases h
