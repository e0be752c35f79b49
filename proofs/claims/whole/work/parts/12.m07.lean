/-! SleepWavesModel.sum()V -/
def q_X11_sum_1 : List zEnt := zEc 1 (.invokevirtual 272) 3 146 1 138 1 :: [zE 4 .nop 0]
def q_X11_sum_0 : List zEnt := zE 0 (.aload_n 0) 1 :: q_X11_sum_1
def q_X11_sum_26 : List zEnt := zEa 26 (.if_icmp .ne 41) 3 67 :: [zE 29 .nop 0]
def q_X11_sum_24 : List zEnt := zEk 24 (.bipush 45) 2 45 :: q_X11_sum_26
def q_X11_sum_21 : List zEnt := zEc 21 (.invokevirtual 214) 3 138 1 120 0 :: q_X11_sum_24
def q_X11_sum_20 : List zEnt := zE 20 (.aload_n 0) 1 :: q_X11_sum_21
def q_X11_sum_17 : List zEnt := zEa 17 (.if_icmp .eq 12) 3 29 :: q_X11_sum_20
def q_X11_sum_15 : List zEnt := zEk 15 (.bipush 43) 2 43 :: q_X11_sum_17
def q_X11_sum_12 : List zEnt := zEc 12 (.invokevirtual 214) 3 138 1 120 0 :: q_X11_sum_15
def q_X11_sum_11 : List zEnt := zE 11 (.aload_n 0) 1 :: q_X11_sum_12
def q_X11_sum_8 : List zEnt := zEa 8 (.ifCond .ne 59) 3 67 :: q_X11_sum_11
def q_X11_sum_4 : List zEnt := zE 4 (.aload_n 0) 1 :: zEf 5 (.getfield 208) 3 11 32 180 (0, 0, 0) :: q_X11_sum_8
def q_X11_sum_39 : List zEnt := zEa 39 (.goto 4) 3 43 :: []
def q_X11_sum_38 : List zEnt := zEk 38 (.iconst 2) 1 2 :: q_X11_sum_39
def q_X11_sum_35 : List zEnt := zEa 35 (.if_icmp .ne 7) 3 42 :: q_X11_sum_38
def q_X11_sum_33 : List zEnt := zEk 33 (.bipush 43) 2 43 :: q_X11_sum_35
def q_X11_sum_30 : List zEnt := zEc 30 (.invokevirtual 214) 3 138 1 120 0 :: q_X11_sum_33
def q_X11_sum_29 : List zEnt := zE 29 (.aload_n 0) 1 :: q_X11_sum_30
def q_X11_sum_42 : List zEnt := zEk 42 (.iconst 3) 1 3 :: [zE 43 .nop 0]
def q_X11_sum_64 : List zEnt := zEa 64 (.goto (-60)) 3 4 :: []
def q_X11_sum_61 : List zEnt := zEc 61 (.invokevirtual 262) 3 142 3 141 1 :: q_X11_sum_64
def q_X11_sum_58 : List zEnt := zE 58 (.aload_n 0) 1 :: zE 59 (.iload_n 1) 1 :: zEk 60 (.iconst 0) 1 0 :: q_X11_sum_61
def q_X11_sum_55 : List zEnt := zEc 55 (.invokevirtual 272) 3 146 1 138 1 :: q_X11_sum_58
def q_X11_sum_54 : List zEnt := zE 54 (.aload_n 0) 1 :: q_X11_sum_55
def q_X11_sum_51 : List zEnt := zEf 51 (.putfield 211) 3 11 31 179 (0, 0, 0) :: q_X11_sum_54
def q_X11_sum_43 : List zEnt := zE 43 (.istore_n 1) 1 :: zE 44 (.aload_n 0) 1 :: zE 45 .dup 1 :: zEf 46 (.getfield 211) 3 11 31 179 (0, 0, 0) :: zEk 49 (.iconst 1) 1 1 :: zE 50 .iadd 1 :: q_X11_sum_51
def q_X11_sum_67 : List zEnt := zE 67 .return_ 1 :: []
def b_X11_sum : List (Nat × List zEnt) := [(0, q_X11_sum_0), (4, q_X11_sum_4), (29, q_X11_sum_29), (42, q_X11_sum_42), (43, q_X11_sum_43), (67, q_X11_sum_67)]
theorem bk_X11_sum : zchB 147 b_X11_sum = true := by decide +kernel
noncomputable def cc_X11_sum {ρ : Type} : Nat → zH → List zAV → (zH → zAV → Option ρ) → Option ρ := fun n σ av q => if n = 146 then g_X11_term σ av q else if n = 138 then g_X11_sign σ av q else if n = 142 then g_X11_entry σ av q else none
theorem cs_X11_sum {ρ : Type} {X : zX} (hX : zHX X) : zCS X (cc_X11_sum (ρ := ρ)) := by
  intro n σ av q r h hv
  unfold cc_X11_sum at h
  by_cases e_X11_term : n = 146
  · rw [if_pos e_X11_term] at h
    subst e_X11_term
    exact c_X11_term hX h hv
  rw [if_neg e_X11_term] at h
  by_cases e_X11_sign : n = 138
  · rw [if_pos e_X11_sign] at h
    subst e_X11_sign
    exact c_X11_sign hX h hv
  rw [if_neg e_X11_sign] at h
  by_cases e_X11_entry : n = 142
  · rw [if_pos e_X11_entry] at h
    subst e_X11_entry
    exact c_X11_entry hX h hv
  rw [if_neg e_X11_entry] at h
  cases h
theorem cl_X11_sum_X11_term {ρ : Type} (σ : zH) (av : List zAV) (q : zH → zAV → Option ρ) : cc_X11_sum 146 σ av q = g_X11_term σ av q := rfl
theorem cl_X11_sum_X11_sign {ρ : Type} (σ : zH) (av : List zAV) (q : zH → zAV → Option ρ) : cc_X11_sum 138 σ av q = g_X11_sign σ av q := rfl
theorem cl_X11_sum_X11_entry {ρ : Type} (σ : zH) (av : List zAV) (q : zH → zAV → Option ρ) : cc_X11_sum 142 σ av q = g_X11_entry σ av q := rfl
theorem hy_X11_sum {ρ : Type} {X : zX} (hX : zHX X) : zHY X 147 (cc_X11_sum (ρ := ρ)) := zHX.hY hX (cs_X11_sum hX) (zmok_all 147 (by decide))
def gl_X11_sum_4 {ρ : Type} (f : zH → Option ρ) (σ : zH) (L st : List zAV) : Option ρ := match L, st with
  | [.inr (.inr (.inl (11, 0))), _], [] => f σ
  | _, _ => none
def gl_X11_sum_29 {ρ : Type} (f : zH → Option ρ) (σ : zH) (L st : List zAV) : Option ρ := match L, st with
  | [.inr (.inr (.inl (11, 0))), _], [] => f σ
  | _, _ => none
def gl_X11_sum_43 {ρ : Type} (f : zH → Int32 → Option ρ) (σ : zH) (L st : List zAV) : Option ρ := match L, st with
  | [.inr (.inr (.inl (11, 0))), _], [.inl xs0] => f σ xs0
  | _, _ => none
theorem glr_X11_sum_4 {ρ : Type} (f : zH → Option ρ) (σ : zH)  (y1 : zAV) : gl_X11_sum_4 f σ [vR 11 0, y1] [] = f σ := rfl
theorem glr_X11_sum_29 {ρ : Type} (f : zH → Option ρ) (σ : zH)  (y1 : zAV) : gl_X11_sum_29 f σ [vR 11 0, y1] [] = f σ := rfl
theorem glr_X11_sum_43 {ρ : Type} (f : zH → Int32 → Option ρ) (σ : zH) (xs0 : Int32) (y1 : zAV) : gl_X11_sum_43 f σ [vR 11 0, y1] [vI xs0] = f σ xs0 := rfl
theorem t_X11_sum_0 {G : Nat → zH → List zAV → List zAV → Option zH} (es : List zEnt) (σ : zH)  (y1 : zAV)  : zev cc_X11_sum G 9 krV (zE 0 (.aload_n 0) 1 :: es) σ [vR 11 0, y1] [] = zev cc_X11_sum G 9 krV es σ [vR 11 0, y1] [vR 11 0] := rfl
theorem t_X11_sum_4 {G : Nat → zH → List zAV → List zAV → Option zH} (es : List zEnt) (σ : zH)  (y1 : zAV)  : zev cc_X11_sum G 9 krV (zE 4 (.aload_n 0) 1 :: zEf 5 (.getfield 208) 3 11 32 180 (0, 0, 0) :: es) σ [vR 11 0, y1] [] = zev cc_X11_sum G 9 krV es σ [vR 11 0, y1] [vI (σ.1 11 0 32)] := rfl
theorem t_X11_sum_11 {G : Nat → zH → List zAV → List zAV → Option zH} (es : List zEnt) (σ : zH)  (y1 : zAV)  : zev cc_X11_sum G 9 krV (zE 11 (.aload_n 0) 1 :: es) σ [vR 11 0, y1] [] = zev cc_X11_sum G 9 krV es σ [vR 11 0, y1] [vR 11 0] := rfl
theorem t_X11_sum_15 {G : Nat → zH → List zAV → List zAV → Option zH} (es : List zEnt) (σ : zH) (xs0 : Int32) (y1 : zAV) (w15 : Int32) : zev cc_X11_sum G 9 krV (zEk 15 (.bipush 43) 2 w15 :: es) σ [vR 11 0, y1] [vI xs0] = zev cc_X11_sum G 9 krV es σ [vR 11 0, y1] [vI w15, vI xs0] := rfl
theorem t_X11_sum_20 {G : Nat → zH → List zAV → List zAV → Option zH} (es : List zEnt) (σ : zH)  (y1 : zAV)  : zev cc_X11_sum G 9 krV (zE 20 (.aload_n 0) 1 :: es) σ [vR 11 0, y1] [] = zev cc_X11_sum G 9 krV es σ [vR 11 0, y1] [vR 11 0] := rfl
theorem t_X11_sum_24 {G : Nat → zH → List zAV → List zAV → Option zH} (es : List zEnt) (σ : zH) (xs0 : Int32) (y1 : zAV) (w24 : Int32) : zev cc_X11_sum G 9 krV (zEk 24 (.bipush 45) 2 w24 :: es) σ [vR 11 0, y1] [vI xs0] = zev cc_X11_sum G 9 krV es σ [vR 11 0, y1] [vI w24, vI xs0] := rfl
theorem t_X11_sum_29 {G : Nat → zH → List zAV → List zAV → Option zH} (es : List zEnt) (σ : zH)  (y1 : zAV)  : zev cc_X11_sum G 9 krV (zE 29 (.aload_n 0) 1 :: es) σ [vR 11 0, y1] [] = zev cc_X11_sum G 9 krV es σ [vR 11 0, y1] [vR 11 0] := rfl
theorem t_X11_sum_33 {G : Nat → zH → List zAV → List zAV → Option zH} (es : List zEnt) (σ : zH) (xs0 : Int32) (y1 : zAV) (w33 : Int32) : zev cc_X11_sum G 9 krV (zEk 33 (.bipush 43) 2 w33 :: es) σ [vR 11 0, y1] [vI xs0] = zev cc_X11_sum G 9 krV es σ [vR 11 0, y1] [vI w33, vI xs0] := rfl
theorem t_X11_sum_38 {G : Nat → zH → List zAV → List zAV → Option zH} (es : List zEnt) (σ : zH)  (y1 : zAV) (w38 : Int32) : zev cc_X11_sum G 9 krV (zEk 38 (.iconst 2) 1 w38 :: es) σ [vR 11 0, y1] [] = zev cc_X11_sum G 9 krV es σ [vR 11 0, y1] [vI w38] := rfl
theorem t_X11_sum_42 {G : Nat → zH → List zAV → List zAV → Option zH} (es : List zEnt) (σ : zH)  (y1 : zAV) (w42 : Int32) : zev cc_X11_sum G 9 krV (zEk 42 (.iconst 3) 1 w42 :: es) σ [vR 11 0, y1] [] = zev cc_X11_sum G 9 krV es σ [vR 11 0, y1] [vI w42] := rfl
theorem t_X11_sum_43 {G : Nat → zH → List zAV → List zAV → Option zH} (es : List zEnt) (σ : zH) (xs0 : Int32) (y1 : zAV) (w49 : Int32) : zev cc_X11_sum G 9 krV (zE 43 (.istore_n 1) 1 :: zE 44 (.aload_n 0) 1 :: zE 45 .dup 1 :: zEf 46 (.getfield 211) 3 11 31 179 (0, 0, 0) :: zEk 49 (.iconst 1) 1 w49 :: zE 50 .iadd 1 :: es) σ [vR 11 0, y1] [vI xs0] = zev cc_X11_sum G 9 krV es σ [vR 11 0, vI xs0] [vI ((σ.1 11 0 31) + w49), vR 11 0] := rfl
theorem t_X11_sum_54 {G : Nat → zH → List zAV → List zAV → Option zH} (es : List zEnt) (σ : zH) (x1 : Int32)   : zev cc_X11_sum G 9 krV (zE 54 (.aload_n 0) 1 :: es) σ [vR 11 0, vI x1] [] = zev cc_X11_sum G 9 krV es σ [vR 11 0, vI x1] [vR 11 0] := rfl
theorem t_X11_sum_58 {G : Nat → zH → List zAV → List zAV → Option zH} (es : List zEnt) (σ : zH) (x1 : Int32)  (w60 : Int32) : zev cc_X11_sum G 9 krV (zE 58 (.aload_n 0) 1 :: zE 59 (.iload_n 1) 1 :: zEk 60 (.iconst 0) 1 w60 :: es) σ [vR 11 0, vI x1] [] = zev cc_X11_sum G 9 krV es σ [vR 11 0, vI x1] [vI w60, vI x1, vR 11 0] := rfl
noncomputable def j_X11_sum_43 (c4 : zH → Option zH) (σ : zH) (xs0 : Int32) : Option zH :=
  zlet (uI σ 11 0 31 ((σ.1 11 0 31) + (1 : Int32))) fun σ1 =>
  (d_X11_term σ1).bind fun σ2 =>
  (d_X11_entry σ2 xs0 (0 : Int32)).bind fun σ3 =>
  c4 σ3
theorem e_X11_sum_43 (c4 : zH → Option zH) (σ : zH) (xs0 : Int32) (y1 : zAV) : j_X11_sum_43 c4 σ xs0 = zin cc_X11_sum (fun t => if t = 4 then some (gl_X11_sum_4 c4) else none) 9 krV b_X11_sum 43 σ [vR 11 0, y1] [vI xs0] := by
  unfold j_X11_sum_43
  refine Eq.symm ((zin_b (es := q_X11_sum_43) rfl).trans ?_)
  refine (t_X11_sum_43 _ _ _ _ _).trans ?_
  refine x_pf0.trans (plt fun _ => ?_)
  refine (t_X11_sum_54 _ _ _).trans ?_
  refine (x_callV rfl rfl rfl rfl).trans ((cl_X11_sum_X11_term _ _ _).trans ((gr_X11_term _ _).trans (pbd fun _ => ?_)))
  refine (t_X11_sum_58 _ _ _ _).trans ?_
  refine (x_callV rfl rfl rfl rfl).trans ((cl_X11_sum_X11_entry _ _ _).trans ((gr_X11_entry _ _ _ _).trans (pbd fun _ => ?_)))
  refine x_goto.trans ?_
  exact (zrun_c rfl).trans (glr_X11_sum_4 _ _ _)
theorem s_X11_sum_43 {X : zX} (hX : zHX X) {c4 : zH → Option zH} (h4 : ∀ σ L st r, gl_X11_sum_4 c4 σ L st = some r → zGW X 147 krV 4 σ L st r) : ∀ σ L st r, gl_X11_sum_43 (j_X11_sum_43 c4) σ L st = some r → zGW X 147 krV 43 σ L st r := by
  intro σ L st r h
  unfold gl_X11_sum_43 at h
  split at h
  · exact zin_ok (hy_X11_sum hX) bk_X11_sum (fun t f hf => by
    by_cases e4 : t = 4
    · rw [if_pos e4] at hf; subst e4; cases hf; exact h4
    rw [if_neg e4] at hf
    cases hf) ((e_X11_sum_43 _ _ _ _).symm.trans h)
  · cases h
noncomputable def j_X11_sum_29 (c4 : zH → Option zH) (σ : zH)  : Option zH :=
  (d_X11_sign σ).bind fun p1 =>
  if p1.2 = (43 : Int32) then
    (j_X11_sum_43 c4) p1.1 (2 : Int32)
  else
    (j_X11_sum_43 c4) p1.1 (3 : Int32)
theorem e_X11_sum_29 (c4 : zH → Option zH) (σ : zH)  (y1 : zAV) : j_X11_sum_29 c4 σ = zin cc_X11_sum (fun t => if t = 43 then some (gl_X11_sum_43 (j_X11_sum_43 c4)) else none) 9 krV b_X11_sum 29 σ [vR 11 0, y1] [] := by
  unfold j_X11_sum_29
  refine Eq.symm ((zin_b (es := q_X11_sum_29) rfl).trans ?_)
  refine (t_X11_sum_29 _ _ _).trans ?_
  refine (x_callV rfl rfl rfl rfl).trans ((cl_X11_sum_X11_sign _ _ _).trans ((gr_X11_sign _ _).trans (pbd fun _ => ?_)))
  refine (t_X11_sum_33 _ _ _ _ _).trans ?_
  refine x_icmp.trans (pif_ne ?_ ?_)
  · refine (zrun_b (es := q_X11_sum_42) rfl rfl).trans ?_
    refine (t_X11_sum_42 _ _ _ _).trans ?_
    refine x_cut.trans ?_
    exact (zrun_c rfl).trans (glr_X11_sum_43 _ _ _ _)
  · refine (t_X11_sum_38 _ _ _ _).trans ?_
    refine x_goto.trans ?_
    exact (zrun_c rfl).trans (glr_X11_sum_43 _ _ _ _)
theorem s_X11_sum_29 {X : zX} (hX : zHX X) {c4 : zH → Option zH} (h4 : ∀ σ L st r, gl_X11_sum_4 c4 σ L st = some r → zGW X 147 krV 4 σ L st r) : ∀ σ L st r, gl_X11_sum_29 (j_X11_sum_29 c4) σ L st = some r → zGW X 147 krV 29 σ L st r := by
  intro σ L st r h
  unfold gl_X11_sum_29 at h
  split at h
  · exact zin_ok (hy_X11_sum hX) bk_X11_sum (fun t f hf => by
    by_cases e43 : t = 43
    · rw [if_pos e43] at hf; subst e43; cases hf; exact (s_X11_sum_43 hX h4)
    rw [if_neg e43] at hf
    cases hf) ((e_X11_sum_29 _ _ _).symm.trans h)
  · cases h
noncomputable def k_X11_sum_4  : Nat → zH → Option zH
  | 0, _ => none
  | n + 1, σ =>
    if (σ.1 11 0 32) = 0 then
      (d_X11_sign σ).bind fun p1 =>
      if p1.2 = (43 : Int32) then
        (j_X11_sum_29 (k_X11_sum_4 n)) p1.1
      else
        (d_X11_sign p1.1).bind fun p2 =>
        if p2.2 = (45 : Int32) then
          (j_X11_sum_29 (k_X11_sum_4 n)) p2.1
        else
          some p2.1
    else
      some σ
theorem e_X11_sum_4  (n : Nat) (σ : zH)  (y1 : zAV) : k_X11_sum_4 (n + 1) σ = zin cc_X11_sum (fun t => if t = 29 then some (gl_X11_sum_29 (j_X11_sum_29 (k_X11_sum_4 n))) else none) 9 krV b_X11_sum 4 σ [vR 11 0, y1] [] := by
  rw [k_X11_sum_4]
  refine Eq.symm ((zin_b (es := q_X11_sum_4) rfl).trans ?_)
  refine (t_X11_sum_4 _ _ _).trans ?_
  refine x_if.trans (pif_ne ?_ ?_)
  · refine (zrun_b (es := q_X11_sum_67) rfl rfl).trans ?_
    exact x_vret
  · refine (t_X11_sum_11 _ _ _).trans ?_
    refine (x_callV rfl rfl rfl rfl).trans ((cl_X11_sum_X11_sign _ _ _).trans ((gr_X11_sign _ _).trans (pbd fun _ => ?_)))
    refine (t_X11_sum_15 _ _ _ _ _).trans ?_
    refine x_icmp.trans (pif_eq ?_ ?_)
    · exact (zrun_c rfl).trans (glr_X11_sum_29 _ _ _)
    · refine (t_X11_sum_20 _ _ _).trans ?_
      refine (x_callV rfl rfl rfl rfl).trans ((cl_X11_sum_X11_sign _ _ _).trans ((gr_X11_sign _ _).trans (pbd fun _ => ?_)))
      refine (t_X11_sum_24 _ _ _ _ _).trans ?_
      refine x_icmp.trans (pif_ne ?_ ?_)
      · refine (zrun_b (es := q_X11_sum_67) rfl rfl).trans ?_
        exact x_vret
      · refine x_cut.trans ?_
        exact (zrun_c rfl).trans (glr_X11_sum_29 _ _ _)
theorem s_X11_sum_4 {X : zX} (hX : zHX X)   : ∀ n σ L st r, gl_X11_sum_4 (k_X11_sum_4 n) σ L st = some r → zGW X 147 krV 4 σ L st r := by
  intro n
  induction n with
  | zero =>
    intro σ L st r h
    unfold gl_X11_sum_4 at h
    split at h <;> cases h
  | succ n ih =>
    intro σ L st r h
    unfold gl_X11_sum_4 at h
    split at h
    · exact zin_ok (hy_X11_sum hX) bk_X11_sum (fun t f hf => by
      by_cases e29 : t = 29
      · rw [if_pos e29] at hf; subst e29; cases hf; exact (s_X11_sum_29 hX ih)
      rw [if_neg e29] at hf
      cases hf) ((e_X11_sum_4 _ _ _).symm.trans h)
    · cases h
noncomputable def d_X11_sum (σ : zH)  : Option zH :=
  (d_X11_term σ).bind fun σ1 =>
  (k_X11_sum_4 zN) σ1
theorem e_X11_sum (σ : zH)  : d_X11_sum σ = zin cc_X11_sum (fun t => if t = 4 then some (gl_X11_sum_4 (k_X11_sum_4 zN)) else none) 9 krV b_X11_sum 0 σ [vR 11 0, vU] [] := by
  unfold d_X11_sum
  refine Eq.symm ((zin_b (es := q_X11_sum_0) rfl).trans ?_)
  refine (t_X11_sum_0 _ _ _).trans ?_
  refine (x_callV rfl rfl rfl rfl).trans ((cl_X11_sum_X11_term _ _ _).trans ((gr_X11_term _ _).trans (pbd fun _ => ?_)))
  refine x_cut.trans ?_
  exact (zrun_c rfl).trans (glr_X11_sum_4 _ _ _)
noncomputable def g_X11_sum {ρ : Type} (σ : zH) (av : List zAV) (q : zH → zAV → Option ρ) : Option ρ := match av with
  | [.inr (.inr (.inl (11, 0)))] => (d_X11_sum σ).bind fun σ => q σ vU
  | _ => none
theorem gr_X11_sum {ρ : Type} (σ : zH)  (q : zH → zAV → Option ρ) : g_X11_sum σ [vR 11 0] q = (d_X11_sum σ).bind fun σ => q σ vU := rfl
theorem c_X11_sum {ρ : Type} {X : zX} (hX : zHX X) {σ : zH} {av : List zAV} {q : zH → zAV → Option ρ} {r : ρ} (h : g_X11_sum σ av q = some r) (hv : ∀ a ∈ av, zval X a) : zcon X 147 σ av q r := by
  unfold g_X11_sum at h
  split at h
  · exact zcon_V (n := 147) (ml := 2) (rc := 9) (st := 0) (kd := 11) (np := 0) (by decide +kernel) rfl ⟨_, _, rfl, rfl⟩ (Nat.le_of_ble_eq_true rfl) hv h (fun y h1 => (zin_ok (hy_X11_sum hX) bk_X11_sum (fun t f hf => by
      by_cases e4 : t = 4
      · rw [if_pos e4] at hf; subst e4; cases hf; exact ((fun σ L st r h => s_X11_sum_4 hX  zN σ L st r h))
      rw [if_neg e4] at hf
      cases hf) ((e_X11_sum _).symm.trans h1)))
  · cases h
/-! SleepWavesModel.compared()V -/
def q_X11_compared_36 : List zEnt := zE 36 .return_ 1 :: []
def q_X11_compared_33 : List zEnt := zEc 33 (.invokevirtual 246) 3 137 3 123 1 :: q_X11_compared_36
def q_X11_compared_27 : List zEnt := zE 27 (.aload_n 0) 1 :: zEk 28 (.iconst 0) 1 0 :: zE 29 (.aload_n 0) 1 :: zEf 30 (.getfield 211) 3 11 31 179 (0, 0, 0) :: q_X11_compared_33
def q_X11_compared_24 : List zEnt := zEa 24 (.if_icmp .eq 13) 3 37 :: q_X11_compared_27
def q_X11_compared_21 : List zEnt := zE 21 (.iload_n 1) 1 :: zEk 22 (.bipush 62) 2 62 :: q_X11_compared_24
def q_X11_compared_18 : List zEnt := zEa 18 (.if_icmp .eq 19) 3 37 :: q_X11_compared_21
def q_X11_compared_15 : List zEnt := zE 15 (.iload_n 1) 1 :: zEk 16 (.bipush 61) 2 61 :: q_X11_compared_18
def q_X11_compared_12 : List zEnt := zEa 12 (.if_icmp .eq 25) 3 37 :: q_X11_compared_15
def q_X11_compared_8 : List zEnt := zE 8 (.istore_n 1) 1 :: zE 9 (.iload_n 1) 1 :: zEk 10 (.bipush 60) 2 60 :: q_X11_compared_12
def q_X11_compared_5 : List zEnt := zEc 5 (.invokevirtual 214) 3 138 1 120 0 :: q_X11_compared_8
def q_X11_compared_4 : List zEnt := zE 4 (.aload_n 0) 1 :: q_X11_compared_5
def q_X11_compared_1 : List zEnt := zEc 1 (.invokevirtual 275) 3 147 1 137 1 :: q_X11_compared_4
def q_X11_compared_0 : List zEnt := zE 0 (.aload_n 0) 1 :: q_X11_compared_1
def q_X11_compared_71 : List zEnt := zEa 71 (.goto 4) 3 75 :: []
def q_X11_compared_70 : List zEnt := zEk 70 (.iconst 1) 1 1 :: q_X11_compared_71
def q_X11_compared_67 : List zEnt := zEa 67 (.if_icmp .ne 7) 3 74 :: q_X11_compared_70
def q_X11_compared_65 : List zEnt := zEk 65 (.bipush 61) 2 61 :: q_X11_compared_67
def q_X11_compared_62 : List zEnt := zEc 62 (.invokevirtual 214) 3 138 1 120 0 :: q_X11_compared_65
def q_X11_compared_61 : List zEnt := zE 61 (.aload_n 0) 1 :: q_X11_compared_62
def q_X11_compared_58 : List zEnt := zEa 58 (.if_icmp .eq 16) 3 74 :: q_X11_compared_61
def q_X11_compared_55 : List zEnt := zE 55 (.iload_n 1) 1 :: zEk 56 (.bipush 61) 2 61 :: q_X11_compared_58
def q_X11_compared_52 : List zEnt := zEf 52 (.putfield 211) 3 11 31 179 (0, 0, 0) :: q_X11_compared_55
def q_X11_compared_45 : List zEnt := zE 45 (.aload_n 0) 1 :: zE 46 .dup 1 :: zEf 47 (.getfield 211) 3 11 31 179 (0, 0, 0) :: zEk 50 (.iconst 1) 1 1 :: zE 51 .iadd 1 :: q_X11_compared_52
def q_X11_compared_42 : List zEnt := zEc 42 (.invokevirtual 259) 3 143 2 140 1 :: q_X11_compared_45
def q_X11_compared_37 : List zEnt := zE 37 (.aload_n 0) 1 :: zE 38 (.aload_n 0) 1 :: zEf 39 (.getfield 211) 3 11 31 179 (0, 0, 0) :: q_X11_compared_42
def q_X11_compared_74 : List zEnt := zEk 74 (.iconst 0) 1 0 :: [zE 75 .nop 0]
def q_X11_compared_86 : List zEnt := zEa 86 (.goto 4) 3 90 :: []
def q_X11_compared_85 : List zEnt := zEk 85 (.iconst 1) 1 1 :: q_X11_compared_86
def q_X11_compared_82 : List zEnt := zEa 82 (.ifCond .eq 7) 3 89 :: q_X11_compared_85
def q_X11_compared_75 : List zEnt := zE 75 (.istore_n 2) 1 :: zE 76 (.aload_n 0) 1 :: zE 77 .dup 1 :: zEf 78 (.getfield 211) 3 11 31 179 (0, 0, 0) :: zE 81 (.iload_n 2) 1 :: q_X11_compared_82
def q_X11_compared_89 : List zEnt := zEk 89 (.iconst 0) 1 0 :: [zE 90 .nop 0]
def q_X11_compared_107 : List zEnt := zEa 107 (.goto 32) 3 139 :: []
def q_X11_compared_105 : List zEnt := zEk 105 (.bipush 6) 2 6 :: q_X11_compared_107
def q_X11_compared_102 : List zEnt := zEa 102 (.if_icmp .ne 8) 3 110 :: q_X11_compared_105
def q_X11_compared_98 : List zEnt := zE 98 (.aload_n 0) 1 :: zE 99 (.iload_n 1) 1 :: zEk 100 (.bipush 61) 2 61 :: q_X11_compared_102
def q_X11_compared_95 : List zEnt := zEc 95 (.invokevirtual 275) 3 147 1 137 1 :: q_X11_compared_98
def q_X11_compared_94 : List zEnt := zE 94 (.aload_n 0) 1 :: q_X11_compared_95
def q_X11_compared_91 : List zEnt := zEf 91 (.putfield 211) 3 11 31 179 (0, 0, 0) :: q_X11_compared_94
def q_X11_compared_90 : List zEnt := zE 90 .iadd 1 :: q_X11_compared_91
def q_X11_compared_121 : List zEnt := zEa 121 (.goto 18) 3 139 :: []
def q_X11_compared_120 : List zEnt := zEk 120 (.iconst 5) 1 5 :: q_X11_compared_121
def q_X11_compared_117 : List zEnt := zEa 117 (.ifCond .eq 7) 3 124 :: q_X11_compared_120
def q_X11_compared_116 : List zEnt := zE 116 (.iload_n 2) 1 :: q_X11_compared_117
def q_X11_compared_113 : List zEnt := zEa 113 (.if_icmp .ne 15) 3 128 :: q_X11_compared_116
def q_X11_compared_110 : List zEnt := zE 110 (.iload_n 1) 1 :: zEk 111 (.bipush 60) 2 60 :: q_X11_compared_113
def q_X11_compared_125 : List zEnt := zEa 125 (.goto 14) 3 139 :: []
def q_X11_compared_124 : List zEnt := zEk 124 (.iconst 4) 1 4 :: q_X11_compared_125
def q_X11_compared_134 : List zEnt := zEa 134 (.goto 5) 3 139 :: []
def q_X11_compared_132 : List zEnt := zEk 132 (.bipush 7) 2 7 :: q_X11_compared_134
def q_X11_compared_129 : List zEnt := zEa 129 (.ifCond .eq 8) 3 137 :: q_X11_compared_132
def q_X11_compared_128 : List zEnt := zE 128 (.iload_n 2) 1 :: q_X11_compared_129
def q_X11_compared_137 : List zEnt := zEk 137 (.bipush 8) 2 8 :: [zE 139 .nop 0]
def q_X11_compared_143 : List zEnt := zE 143 .return_ 1 :: []
def q_X11_compared_140 : List zEnt := zEc 140 (.invokevirtual 262) 3 142 3 141 1 :: q_X11_compared_143
def q_X11_compared_139 : List zEnt := zEk 139 (.iconst 0) 1 0 :: q_X11_compared_140
def b_X11_compared : List (Nat × List zEnt) := [(0, q_X11_compared_0), (37, q_X11_compared_37), (74, q_X11_compared_74), (75, q_X11_compared_75), (89, q_X11_compared_89), (90, q_X11_compared_90), (110, q_X11_compared_110), (124, q_X11_compared_124), (128, q_X11_compared_128), (137, q_X11_compared_137), (139, q_X11_compared_139)]
theorem bk_X11_compared : zchB 148 b_X11_compared = true := by decide +kernel
noncomputable def cc_X11_compared {ρ : Type} : Nat → zH → List zAV → (zH → zAV → Option ρ) → Option ρ := fun n σ av q => if n = 147 then g_X11_sum σ av q else if n = 138 then g_X11_sign σ av q else if n = 137 then g_X11_fails σ av q else if n = 143 then g_X11_isCounted σ av q else if n = 142 then g_X11_entry σ av q else none
theorem cs_X11_compared {ρ : Type} {X : zX} (hX : zHX X) : zCS X (cc_X11_compared (ρ := ρ)) := by
  intro n σ av q r h hv
  unfold cc_X11_compared at h
  by_cases e_X11_sum : n = 147
  · rw [if_pos e_X11_sum] at h
    subst e_X11_sum
    exact c_X11_sum hX h hv
  rw [if_neg e_X11_sum] at h
  by_cases e_X11_sign : n = 138
  · rw [if_pos e_X11_sign] at h
    subst e_X11_sign
    exact c_X11_sign hX h hv
  rw [if_neg e_X11_sign] at h
  by_cases e_X11_fails : n = 137
  · rw [if_pos e_X11_fails] at h
    subst e_X11_fails
    exact c_X11_fails hX h hv
  rw [if_neg e_X11_fails] at h
  by_cases e_X11_isCounted : n = 143
  · rw [if_pos e_X11_isCounted] at h
    subst e_X11_isCounted
    exact c_X11_isCounted hX h hv
  rw [if_neg e_X11_isCounted] at h
  by_cases e_X11_entry : n = 142
  · rw [if_pos e_X11_entry] at h
    subst e_X11_entry
    exact c_X11_entry hX h hv
  rw [if_neg e_X11_entry] at h
  cases h
theorem cl_X11_compared_X11_sum {ρ : Type} (σ : zH) (av : List zAV) (q : zH → zAV → Option ρ) : cc_X11_compared 147 σ av q = g_X11_sum σ av q := rfl
theorem cl_X11_compared_X11_sign {ρ : Type} (σ : zH) (av : List zAV) (q : zH → zAV → Option ρ) : cc_X11_compared 138 σ av q = g_X11_sign σ av q := rfl
theorem cl_X11_compared_X11_fails {ρ : Type} (σ : zH) (av : List zAV) (q : zH → zAV → Option ρ) : cc_X11_compared 137 σ av q = g_X11_fails σ av q := rfl
theorem cl_X11_compared_X11_isCounted {ρ : Type} (σ : zH) (av : List zAV) (q : zH → zAV → Option ρ) : cc_X11_compared 143 σ av q = g_X11_isCounted σ av q := rfl
theorem cl_X11_compared_X11_entry {ρ : Type} (σ : zH) (av : List zAV) (q : zH → zAV → Option ρ) : cc_X11_compared 142 σ av q = g_X11_entry σ av q := rfl
theorem hy_X11_compared {ρ : Type} {X : zX} (hX : zHX X) : zHY X 148 (cc_X11_compared (ρ := ρ)) := zHX.hY hX (cs_X11_compared hX) (zmok_all 148 (by decide))
def gl_X11_compared_37 {ρ : Type} (f : zH → Int32 → Option ρ) (σ : zH) (L st : List zAV) : Option ρ := match L, st with
  | [.inr (.inr (.inl (11, 0))), .inl x1, _], [] => f σ x1
  | _, _ => none
def gl_X11_compared_74 {ρ : Type} (f : zH → Int32 → Option ρ) (σ : zH) (L st : List zAV) : Option ρ := match L, st with
  | [.inr (.inr (.inl (11, 0))), .inl x1, _], [] => f σ x1
  | _, _ => none
def gl_X11_compared_75 {ρ : Type} (f : zH → Int32 → Int32 → Option ρ) (σ : zH) (L st : List zAV) : Option ρ := match L, st with
  | [.inr (.inr (.inl (11, 0))), .inl x1, _], [.inl xs0] => f σ x1 xs0
  | _, _ => none
def gl_X11_compared_90 {ρ : Type} (f : zH → Int32 → Int32 → Int32 → Int32 → Option ρ) (σ : zH) (L st : List zAV) : Option ρ := match L, st with
  | [.inr (.inr (.inl (11, 0))), .inl x1, .inl x2], [.inl xs2, .inl xs1, .inr (.inr (.inl (11, 0)))] => f σ x1 x2 xs1 xs2
  | _, _ => none
def gl_X11_compared_139 {ρ : Type} (f : zH → Int32 → Option ρ) (σ : zH) (L st : List zAV) : Option ρ := match L, st with
  | [_, _, _], [.inl xs1, .inr (.inr (.inl (11, 0)))] => f σ xs1
  | _, _ => none
theorem glr_X11_compared_37 {ρ : Type} (f : zH → Int32 → Option ρ) (σ : zH) (x1 : Int32) (y2 : zAV) : gl_X11_compared_37 f σ [vR 11 0, vI x1, y2] [] = f σ x1 := rfl
theorem glr_X11_compared_74 {ρ : Type} (f : zH → Int32 → Option ρ) (σ : zH) (x1 : Int32) (y2 : zAV) : gl_X11_compared_74 f σ [vR 11 0, vI x1, y2] [] = f σ x1 := rfl
theorem glr_X11_compared_75 {ρ : Type} (f : zH → Int32 → Int32 → Option ρ) (σ : zH) (x1 : Int32) (xs0 : Int32) (y2 : zAV) : gl_X11_compared_75 f σ [vR 11 0, vI x1, y2] [vI xs0] = f σ x1 xs0 := rfl
theorem glr_X11_compared_90 {ρ : Type} (f : zH → Int32 → Int32 → Int32 → Int32 → Option ρ) (σ : zH) (x1 : Int32) (x2 : Int32) (xs1 : Int32) (xs2 : Int32)  : gl_X11_compared_90 f σ [vR 11 0, vI x1, vI x2] [vI xs2, vI xs1, vR 11 0] = f σ x1 x2 xs1 xs2 := rfl
theorem glr_X11_compared_139 {ρ : Type} (f : zH → Int32 → Option ρ) (σ : zH) (xs1 : Int32) (y0 : zAV) (y1 : zAV) (y2 : zAV) : gl_X11_compared_139 f σ [y0, y1, y2] [vI xs1, vR 11 0] = f σ xs1 := rfl
theorem t_X11_compared_0 {G : Nat → zH → List zAV → List zAV → Option zH} (es : List zEnt) (σ : zH)  (y1 : zAV) (y2 : zAV)  : zev cc_X11_compared G 9 krV (zE 0 (.aload_n 0) 1 :: es) σ [vR 11 0, y1, y2] [] = zev cc_X11_compared G 9 krV es σ [vR 11 0, y1, y2] [vR 11 0] := rfl
theorem t_X11_compared_4 {G : Nat → zH → List zAV → List zAV → Option zH} (es : List zEnt) (σ : zH)  (y1 : zAV) (y2 : zAV)  : zev cc_X11_compared G 9 krV (zE 4 (.aload_n 0) 1 :: es) σ [vR 11 0, y1, y2] [] = zev cc_X11_compared G 9 krV es σ [vR 11 0, y1, y2] [vR 11 0] := rfl
theorem t_X11_compared_8 {G : Nat → zH → List zAV → List zAV → Option zH} (es : List zEnt) (σ : zH) (xs0 : Int32) (y1 : zAV) (y2 : zAV) (w10 : Int32) : zev cc_X11_compared G 9 krV (zE 8 (.istore_n 1) 1 :: zE 9 (.iload_n 1) 1 :: zEk 10 (.bipush 60) 2 w10 :: es) σ [vR 11 0, y1, y2] [vI xs0] = zev cc_X11_compared G 9 krV es σ [vR 11 0, vI xs0, y2] [vI w10, vI xs0] := rfl
theorem t_X11_compared_15 {G : Nat → zH → List zAV → List zAV → Option zH} (es : List zEnt) (σ : zH) (x1 : Int32) (y2 : zAV) (w16 : Int32) : zev cc_X11_compared G 9 krV (zE 15 (.iload_n 1) 1 :: zEk 16 (.bipush 61) 2 w16 :: es) σ [vR 11 0, vI x1, y2] [] = zev cc_X11_compared G 9 krV es σ [vR 11 0, vI x1, y2] [vI w16, vI x1] := rfl
theorem t_X11_compared_21 {G : Nat → zH → List zAV → List zAV → Option zH} (es : List zEnt) (σ : zH) (x1 : Int32) (y2 : zAV) (w22 : Int32) : zev cc_X11_compared G 9 krV (zE 21 (.iload_n 1) 1 :: zEk 22 (.bipush 62) 2 w22 :: es) σ [vR 11 0, vI x1, y2] [] = zev cc_X11_compared G 9 krV es σ [vR 11 0, vI x1, y2] [vI w22, vI x1] := rfl
theorem t_X11_compared_27 {G : Nat → zH → List zAV → List zAV → Option zH} (es : List zEnt) (σ : zH)  (y1 : zAV) (y2 : zAV) (w28 : Int32) : zev cc_X11_compared G 9 krV (zE 27 (.aload_n 0) 1 :: zEk 28 (.iconst 0) 1 w28 :: zE 29 (.aload_n 0) 1 :: zEf 30 (.getfield 211) 3 11 31 179 (0, 0, 0) :: es) σ [vR 11 0, y1, y2] [] = zev cc_X11_compared G 9 krV es σ [vR 11 0, y1, y2] [vI (σ.1 11 0 31), vI w28, vR 11 0] := rfl
theorem t_X11_compared_37 {G : Nat → zH → List zAV → List zAV → Option zH} (es : List zEnt) (σ : zH) (x1 : Int32) (y2 : zAV)  : zev cc_X11_compared G 9 krV (zE 37 (.aload_n 0) 1 :: zE 38 (.aload_n 0) 1 :: zEf 39 (.getfield 211) 3 11 31 179 (0, 0, 0) :: es) σ [vR 11 0, vI x1, y2] [] = zev cc_X11_compared G 9 krV es σ [vR 11 0, vI x1, y2] [vI (σ.1 11 0 31), vR 11 0] := rfl
theorem t_X11_compared_45 {G : Nat → zH → List zAV → List zAV → Option zH} (es : List zEnt) (σ : zH) (x1 : Int32) (y2 : zAV) (w50 : Int32) : zev cc_X11_compared G 9 krV (zE 45 (.aload_n 0) 1 :: zE 46 .dup 1 :: zEf 47 (.getfield 211) 3 11 31 179 (0, 0, 0) :: zEk 50 (.iconst 1) 1 w50 :: zE 51 .iadd 1 :: es) σ [vR 11 0, vI x1, y2] [] = zev cc_X11_compared G 9 krV es σ [vR 11 0, vI x1, y2] [vI ((σ.1 11 0 31) + w50), vR 11 0] := rfl
theorem t_X11_compared_55 {G : Nat → zH → List zAV → List zAV → Option zH} (es : List zEnt) (σ : zH) (x1 : Int32) (y2 : zAV) (w56 : Int32) : zev cc_X11_compared G 9 krV (zE 55 (.iload_n 1) 1 :: zEk 56 (.bipush 61) 2 w56 :: es) σ [vR 11 0, vI x1, y2] [] = zev cc_X11_compared G 9 krV es σ [vR 11 0, vI x1, y2] [vI w56, vI x1] := rfl
theorem t_X11_compared_61 {G : Nat → zH → List zAV → List zAV → Option zH} (es : List zEnt) (σ : zH) (x1 : Int32) (y2 : zAV)  : zev cc_X11_compared G 9 krV (zE 61 (.aload_n 0) 1 :: es) σ [vR 11 0, vI x1, y2] [] = zev cc_X11_compared G 9 krV es σ [vR 11 0, vI x1, y2] [vR 11 0] := rfl
theorem t_X11_compared_65 {G : Nat → zH → List zAV → List zAV → Option zH} (es : List zEnt) (σ : zH) (x1 : Int32) (xs0 : Int32) (y2 : zAV) (w65 : Int32) : zev cc_X11_compared G 9 krV (zEk 65 (.bipush 61) 2 w65 :: es) σ [vR 11 0, vI x1, y2] [vI xs0] = zev cc_X11_compared G 9 krV es σ [vR 11 0, vI x1, y2] [vI w65, vI xs0] := rfl
theorem t_X11_compared_70 {G : Nat → zH → List zAV → List zAV → Option zH} (es : List zEnt) (σ : zH) (x1 : Int32) (y2 : zAV) (w70 : Int32) : zev cc_X11_compared G 9 krV (zEk 70 (.iconst 1) 1 w70 :: es) σ [vR 11 0, vI x1, y2] [] = zev cc_X11_compared G 9 krV es σ [vR 11 0, vI x1, y2] [vI w70] := rfl
theorem t_X11_compared_74 {G : Nat → zH → List zAV → List zAV → Option zH} (es : List zEnt) (σ : zH) (x1 : Int32) (y2 : zAV) (w74 : Int32) : zev cc_X11_compared G 9 krV (zEk 74 (.iconst 0) 1 w74 :: es) σ [vR 11 0, vI x1, y2] [] = zev cc_X11_compared G 9 krV es σ [vR 11 0, vI x1, y2] [vI w74] := rfl
theorem t_X11_compared_75 {G : Nat → zH → List zAV → List zAV → Option zH} (es : List zEnt) (σ : zH) (x1 : Int32) (xs0 : Int32) (y2 : zAV)  : zev cc_X11_compared G 9 krV (zE 75 (.istore_n 2) 1 :: zE 76 (.aload_n 0) 1 :: zE 77 .dup 1 :: zEf 78 (.getfield 211) 3 11 31 179 (0, 0, 0) :: zE 81 (.iload_n 2) 1 :: es) σ [vR 11 0, vI x1, y2] [vI xs0] = zev cc_X11_compared G 9 krV es σ [vR 11 0, vI x1, vI xs0] [vI xs0, vI (σ.1 11 0 31), vR 11 0] := rfl
theorem t_X11_compared_85 {G : Nat → zH → List zAV → List zAV → Option zH} (es : List zEnt) (σ : zH) (x1 : Int32) (x2 : Int32) (xs1 : Int32)  (w85 : Int32) : zev cc_X11_compared G 9 krV (zEk 85 (.iconst 1) 1 w85 :: es) σ [vR 11 0, vI x1, vI x2] [vI xs1, vR 11 0] = zev cc_X11_compared G 9 krV es σ [vR 11 0, vI x1, vI x2] [vI w85, vI xs1, vR 11 0] := rfl
theorem t_X11_compared_89 {G : Nat → zH → List zAV → List zAV → Option zH} (es : List zEnt) (σ : zH) (x1 : Int32) (x2 : Int32) (xs1 : Int32)  (w89 : Int32) : zev cc_X11_compared G 9 krV (zEk 89 (.iconst 0) 1 w89 :: es) σ [vR 11 0, vI x1, vI x2] [vI xs1, vR 11 0] = zev cc_X11_compared G 9 krV es σ [vR 11 0, vI x1, vI x2] [vI w89, vI xs1, vR 11 0] := rfl
theorem t_X11_compared_90 {G : Nat → zH → List zAV → List zAV → Option zH} (es : List zEnt) (σ : zH) (x1 : Int32) (x2 : Int32) (xs1 : Int32) (xs2 : Int32)   : zev cc_X11_compared G 9 krV (zE 90 .iadd 1 :: es) σ [vR 11 0, vI x1, vI x2] [vI xs2, vI xs1, vR 11 0] = zev cc_X11_compared G 9 krV es σ [vR 11 0, vI x1, vI x2] [vI (xs1 + xs2), vR 11 0] := rfl
theorem t_X11_compared_94 {G : Nat → zH → List zAV → List zAV → Option zH} (es : List zEnt) (σ : zH) (x1 : Int32) (x2 : Int32)   : zev cc_X11_compared G 9 krV (zE 94 (.aload_n 0) 1 :: es) σ [vR 11 0, vI x1, vI x2] [] = zev cc_X11_compared G 9 krV es σ [vR 11 0, vI x1, vI x2] [vR 11 0] := rfl
theorem t_X11_compared_98 {G : Nat → zH → List zAV → List zAV → Option zH} (es : List zEnt) (σ : zH) (x1 : Int32) (x2 : Int32)  (w100 : Int32) : zev cc_X11_compared G 9 krV (zE 98 (.aload_n 0) 1 :: zE 99 (.iload_n 1) 1 :: zEk 100 (.bipush 61) 2 w100 :: es) σ [vR 11 0, vI x1, vI x2] [] = zev cc_X11_compared G 9 krV es σ [vR 11 0, vI x1, vI x2] [vI w100, vI x1, vR 11 0] := rfl
theorem t_X11_compared_105 {G : Nat → zH → List zAV → List zAV → Option zH} (es : List zEnt) (σ : zH)  (y0 : zAV) (y1 : zAV) (y2 : zAV) (w105 : Int32) : zev cc_X11_compared G 9 krV (zEk 105 (.bipush 6) 2 w105 :: es) σ [y0, y1, y2] [vR 11 0] = zev cc_X11_compared G 9 krV es σ [y0, y1, y2] [vI w105, vR 11 0] := rfl
theorem t_X11_compared_110 {G : Nat → zH → List zAV → List zAV → Option zH} (es : List zEnt) (σ : zH) (x1 : Int32) (x2 : Int32) (y0 : zAV) (w111 : Int32) : zev cc_X11_compared G 9 krV (zE 110 (.iload_n 1) 1 :: zEk 111 (.bipush 60) 2 w111 :: es) σ [y0, vI x1, vI x2] [vR 11 0] = zev cc_X11_compared G 9 krV es σ [y0, vI x1, vI x2] [vI w111, vI x1, vR 11 0] := rfl
theorem t_X11_compared_116 {G : Nat → zH → List zAV → List zAV → Option zH} (es : List zEnt) (σ : zH) (x2 : Int32) (y0 : zAV) (y1 : zAV)  : zev cc_X11_compared G 9 krV (zE 116 (.iload_n 2) 1 :: es) σ [y0, y1, vI x2] [vR 11 0] = zev cc_X11_compared G 9 krV es σ [y0, y1, vI x2] [vI x2, vR 11 0] := rfl
theorem t_X11_compared_120 {G : Nat → zH → List zAV → List zAV → Option zH} (es : List zEnt) (σ : zH)  (y0 : zAV) (y1 : zAV) (y2 : zAV) (w120 : Int32) : zev cc_X11_compared G 9 krV (zEk 120 (.iconst 5) 1 w120 :: es) σ [y0, y1, y2] [vR 11 0] = zev cc_X11_compared G 9 krV es σ [y0, y1, y2] [vI w120, vR 11 0] := rfl
theorem t_X11_compared_124 {G : Nat → zH → List zAV → List zAV → Option zH} (es : List zEnt) (σ : zH)  (y0 : zAV) (y1 : zAV) (y2 : zAV) (w124 : Int32) : zev cc_X11_compared G 9 krV (zEk 124 (.iconst 4) 1 w124 :: es) σ [y0, y1, y2] [vR 11 0] = zev cc_X11_compared G 9 krV es σ [y0, y1, y2] [vI w124, vR 11 0] := rfl
theorem t_X11_compared_128 {G : Nat → zH → List zAV → List zAV → Option zH} (es : List zEnt) (σ : zH) (x2 : Int32) (y0 : zAV) (y1 : zAV)  : zev cc_X11_compared G 9 krV (zE 128 (.iload_n 2) 1 :: es) σ [y0, y1, vI x2] [vR 11 0] = zev cc_X11_compared G 9 krV es σ [y0, y1, vI x2] [vI x2, vR 11 0] := rfl
theorem t_X11_compared_132 {G : Nat → zH → List zAV → List zAV → Option zH} (es : List zEnt) (σ : zH)  (y0 : zAV) (y1 : zAV) (y2 : zAV) (w132 : Int32) : zev cc_X11_compared G 9 krV (zEk 132 (.bipush 7) 2 w132 :: es) σ [y0, y1, y2] [vR 11 0] = zev cc_X11_compared G 9 krV es σ [y0, y1, y2] [vI w132, vR 11 0] := rfl
theorem t_X11_compared_137 {G : Nat → zH → List zAV → List zAV → Option zH} (es : List zEnt) (σ : zH)  (y0 : zAV) (y1 : zAV) (y2 : zAV) (w137 : Int32) : zev cc_X11_compared G 9 krV (zEk 137 (.bipush 8) 2 w137 :: es) σ [y0, y1, y2] [vR 11 0] = zev cc_X11_compared G 9 krV es σ [y0, y1, y2] [vI w137, vR 11 0] := rfl
theorem t_X11_compared_139 {G : Nat → zH → List zAV → List zAV → Option zH} (es : List zEnt) (σ : zH) (xs1 : Int32) (y0 : zAV) (y1 : zAV) (y2 : zAV) (w139 : Int32) : zev cc_X11_compared G 9 krV (zEk 139 (.iconst 0) 1 w139 :: es) σ [y0, y1, y2] [vI xs1, vR 11 0] = zev cc_X11_compared G 9 krV es σ [y0, y1, y2] [vI w139, vI xs1, vR 11 0] := rfl
noncomputable def j_X11_compared_139  (σ : zH) (xs1 : Int32) : Option zH :=
  (d_X11_entry σ xs1 (0 : Int32)).bind fun σ1 =>
  some σ1
theorem e_X11_compared_139  (σ : zH) (xs1 : Int32) (y0 : zAV) (y1 : zAV) (y2 : zAV) : j_X11_compared_139 σ xs1 = zin cc_X11_compared (fun t => none) 9 krV b_X11_compared 139 σ [y0, y1, y2] [vI xs1, vR 11 0] := by
  unfold j_X11_compared_139
  refine Eq.symm ((zin_b (es := q_X11_compared_139) rfl).trans ?_)
  refine (t_X11_compared_139 _ _ _ _ _ _ _).trans ?_
  refine (x_callV rfl rfl rfl rfl).trans ((cl_X11_compared_X11_entry _ _ _).trans ((gr_X11_entry _ _ _ _).trans (pbd fun _ => ?_)))
  exact x_vret
theorem s_X11_compared_139 {X : zX} (hX : zHX X)   : ∀ σ L st r, gl_X11_compared_139 j_X11_compared_139 σ L st = some r → zGW X 148 krV 139 σ L st r := by
  intro σ L st r h
  unfold gl_X11_compared_139 at h
  split at h
  · exact zin_ok (hy_X11_compared hX) bk_X11_compared (fun t f hf => by
    cases hf) ((e_X11_compared_139 _ _ _ _ _).symm.trans h)
  · cases h
noncomputable def j_X11_compared_90  (σ : zH) (x1 : Int32) (x2 : Int32) (xs1 : Int32) (xs2 : Int32) : Option zH :=
  zlet (uI σ 11 0 31 (xs1 + xs2)) fun σ1 =>
  (d_X11_sum σ1).bind fun σ2 =>
  if x1 = (61 : Int32) then
    j_X11_compared_139 σ2 (6 : Int32)
  else
    if x1 = (60 : Int32) then
      if x2 = 0 then
        j_X11_compared_139 σ2 (4 : Int32)
      else
        j_X11_compared_139 σ2 (5 : Int32)
    else
      if x2 = 0 then
        j_X11_compared_139 σ2 (8 : Int32)
      else
        j_X11_compared_139 σ2 (7 : Int32)
theorem e_X11_compared_90  (σ : zH) (x1 : Int32) (x2 : Int32) (xs1 : Int32) (xs2 : Int32)  : j_X11_compared_90 σ x1 x2 xs1 xs2 = zin cc_X11_compared (fun t => if t = 139 then some (gl_X11_compared_139 j_X11_compared_139) else none) 9 krV b_X11_compared 90 σ [vR 11 0, vI x1, vI x2] [vI xs2, vI xs1, vR 11 0] := by
  unfold j_X11_compared_90
  refine Eq.symm ((zin_b (es := q_X11_compared_90) rfl).trans ?_)
  refine (t_X11_compared_90 _ _ _ _ _ _).trans ?_
  refine x_pf0.trans (plt fun _ => ?_)
  refine (t_X11_compared_94 _ _ _ _).trans ?_
  refine (x_callV rfl rfl rfl rfl).trans ((cl_X11_compared_X11_sum _ _ _).trans ((gr_X11_sum _ _).trans (pbd fun _ => ?_)))
  refine (t_X11_compared_98 _ _ _ _ _).trans ?_
  refine x_icmp.trans (pif_ne ?_ ?_)
  · refine (zrun_b (es := q_X11_compared_110) rfl rfl).trans ?_
    refine (t_X11_compared_110 _ _ _ _ _ _).trans ?_
    refine x_icmp.trans (pif_ne ?_ ?_)
    · refine (zrun_b (es := q_X11_compared_128) rfl rfl).trans ?_
      refine (t_X11_compared_128 _ _ _ _ _).trans ?_
      refine x_if.trans (pif_eq ?_ ?_)
      · refine (zrun_b (es := q_X11_compared_137) rfl rfl).trans ?_
        refine (t_X11_compared_137 _ _ _ _ _ _).trans ?_
        refine x_cut.trans ?_
        exact (zrun_c rfl).trans (glr_X11_compared_139 _ _ _ _ _ _)
      · refine (t_X11_compared_132 _ _ _ _ _ _).trans ?_
        refine x_goto.trans ?_
        exact (zrun_c rfl).trans (glr_X11_compared_139 _ _ _ _ _ _)
    · refine (t_X11_compared_116 _ _ _ _ _).trans ?_
      refine x_if.trans (pif_eq ?_ ?_)
      · refine (zrun_b (es := q_X11_compared_124) rfl rfl).trans ?_
        refine (t_X11_compared_124 _ _ _ _ _ _).trans ?_
        refine x_goto.trans ?_
        exact (zrun_c rfl).trans (glr_X11_compared_139 _ _ _ _ _ _)
      · refine (t_X11_compared_120 _ _ _ _ _ _).trans ?_
        refine x_goto.trans ?_
        exact (zrun_c rfl).trans (glr_X11_compared_139 _ _ _ _ _ _)
  · refine (t_X11_compared_105 _ _ _ _ _ _).trans ?_
    refine x_goto.trans ?_
    exact (zrun_c rfl).trans (glr_X11_compared_139 _ _ _ _ _ _)
theorem s_X11_compared_90 {X : zX} (hX : zHX X)   : ∀ σ L st r, gl_X11_compared_90 j_X11_compared_90 σ L st = some r → zGW X 148 krV 90 σ L st r := by
  intro σ L st r h
  unfold gl_X11_compared_90 at h
  split at h
  · exact zin_ok (hy_X11_compared hX) bk_X11_compared (fun t f hf => by
    by_cases e139 : t = 139
    · rw [if_pos e139] at hf; subst e139; cases hf; exact (s_X11_compared_139 hX)
    rw [if_neg e139] at hf
    cases hf) ((e_X11_compared_90 _ _ _ _ _).symm.trans h)
  · cases h
noncomputable def j_X11_compared_75  (σ : zH) (x1 : Int32) (xs0 : Int32) : Option zH :=
  if xs0 = 0 then
    j_X11_compared_90 σ x1 xs0 (σ.1 11 0 31) (0 : Int32)
  else
    j_X11_compared_90 σ x1 xs0 (σ.1 11 0 31) (1 : Int32)
theorem e_X11_compared_75  (σ : zH) (x1 : Int32) (xs0 : Int32) (y2 : zAV) : j_X11_compared_75 σ x1 xs0 = zin cc_X11_compared (fun t => if t = 90 then some (gl_X11_compared_90 j_X11_compared_90) else none) 9 krV b_X11_compared 75 σ [vR 11 0, vI x1, y2] [vI xs0] := by
  unfold j_X11_compared_75
  refine Eq.symm ((zin_b (es := q_X11_compared_75) rfl).trans ?_)
  refine (t_X11_compared_75 _ _ _ _ _).trans ?_
  refine x_if.trans (pif_eq ?_ ?_)
  · refine (zrun_b (es := q_X11_compared_89) rfl rfl).trans ?_
    refine (t_X11_compared_89 _ _ _ _ _ _).trans ?_
    refine x_cut.trans ?_
    exact (zrun_c rfl).trans (glr_X11_compared_90 _ _ _ _ _ _)
  · refine (t_X11_compared_85 _ _ _ _ _ _).trans ?_
    refine x_goto.trans ?_
    exact (zrun_c rfl).trans (glr_X11_compared_90 _ _ _ _ _ _)
theorem s_X11_compared_75 {X : zX} (hX : zHX X)   : ∀ σ L st r, gl_X11_compared_75 j_X11_compared_75 σ L st = some r → zGW X 148 krV 75 σ L st r := by
  intro σ L st r h
  unfold gl_X11_compared_75 at h
  split at h
  · exact zin_ok (hy_X11_compared hX) bk_X11_compared (fun t f hf => by
    by_cases e90 : t = 90
    · rw [if_pos e90] at hf; subst e90; cases hf; exact (s_X11_compared_90 hX)
    rw [if_neg e90] at hf
    cases hf) ((e_X11_compared_75 _ _ _ _).symm.trans h)
  · cases h
noncomputable def j_X11_compared_74  (σ : zH) (x1 : Int32) : Option zH :=
  j_X11_compared_75 σ x1 (0 : Int32)
theorem e_X11_compared_74  (σ : zH) (x1 : Int32) (y2 : zAV) : j_X11_compared_74 σ x1 = zin cc_X11_compared (fun t => if t = 75 then some (gl_X11_compared_75 j_X11_compared_75) else none) 9 krV b_X11_compared 74 σ [vR 11 0, vI x1, y2] [] := by
  unfold j_X11_compared_74
  refine Eq.symm ((zin_b (es := q_X11_compared_74) rfl).trans ?_)
  refine (t_X11_compared_74 _ _ _ _ _).trans ?_
  refine x_cut.trans ?_
  exact (zrun_c rfl).trans (glr_X11_compared_75 _ _ _ _ _)
theorem s_X11_compared_74 {X : zX} (hX : zHX X)   : ∀ σ L st r, gl_X11_compared_74 j_X11_compared_74 σ L st = some r → zGW X 148 krV 74 σ L st r := by
  intro σ L st r h
  unfold gl_X11_compared_74 at h
  split at h
  · exact zin_ok (hy_X11_compared hX) bk_X11_compared (fun t f hf => by
    by_cases e75 : t = 75
    · rw [if_pos e75] at hf; subst e75; cases hf; exact (s_X11_compared_75 hX)
    rw [if_neg e75] at hf
    cases hf) ((e_X11_compared_74 _ _ _).symm.trans h)
  · cases h
noncomputable def j_X11_compared_37  (σ : zH) (x1 : Int32) : Option zH :=
  (d_X11_isCounted σ (σ.1 11 0 31)).bind fun σ1 =>
  zlet (uI σ1 11 0 31 ((σ1.1 11 0 31) + (1 : Int32))) fun σ2 =>
  if x1 = (61 : Int32) then
    j_X11_compared_74 σ2 x1
  else
    (d_X11_sign σ2).bind fun p3 =>
    if p3.2 = (61 : Int32) then
      j_X11_compared_75 p3.1 x1 (1 : Int32)
    else
      j_X11_compared_74 p3.1 x1
theorem e_X11_compared_37  (σ : zH) (x1 : Int32) (y2 : zAV) : j_X11_compared_37 σ x1 = zin cc_X11_compared (fun t => if t = 74 then some (gl_X11_compared_74 j_X11_compared_74) else if t = 75 then some (gl_X11_compared_75 j_X11_compared_75) else none) 9 krV b_X11_compared 37 σ [vR 11 0, vI x1, y2] [] := by
  unfold j_X11_compared_37
  refine Eq.symm ((zin_b (es := q_X11_compared_37) rfl).trans ?_)
  refine (t_X11_compared_37 _ _ _ _).trans ?_
  refine (x_callV rfl rfl rfl rfl).trans ((cl_X11_compared_X11_isCounted _ _ _).trans ((gr_X11_isCounted _ _ _).trans (pbd fun _ => ?_)))
  refine (t_X11_compared_45 _ _ _ _ _).trans ?_
  refine x_pf0.trans (plt fun _ => ?_)
  refine (t_X11_compared_55 _ _ _ _ _).trans ?_
  refine x_icmp.trans (pif_eq ?_ ?_)
  · exact (zrun_c rfl).trans (glr_X11_compared_74 _ _ _ _)
  · refine (t_X11_compared_61 _ _ _ _).trans ?_
    refine (x_callV rfl rfl rfl rfl).trans ((cl_X11_compared_X11_sign _ _ _).trans ((gr_X11_sign _ _).trans (pbd fun _ => ?_)))
    refine (t_X11_compared_65 _ _ _ _ _ _).trans ?_
    refine x_icmp.trans (pif_ne ?_ ?_)
    · exact (zrun_c rfl).trans (glr_X11_compared_74 _ _ _ _)
    · refine (t_X11_compared_70 _ _ _ _ _).trans ?_
      refine x_goto.trans ?_
      exact (zrun_c rfl).trans (glr_X11_compared_75 _ _ _ _ _)
theorem s_X11_compared_37 {X : zX} (hX : zHX X)   : ∀ σ L st r, gl_X11_compared_37 j_X11_compared_37 σ L st = some r → zGW X 148 krV 37 σ L st r := by
  intro σ L st r h
  unfold gl_X11_compared_37 at h
  split at h
  · exact zin_ok (hy_X11_compared hX) bk_X11_compared (fun t f hf => by
    by_cases e74 : t = 74
    · rw [if_pos e74] at hf; subst e74; cases hf; exact (s_X11_compared_74 hX)
    rw [if_neg e74] at hf
    by_cases e75 : t = 75
    · rw [if_pos e75] at hf; subst e75; cases hf; exact (s_X11_compared_75 hX)
    rw [if_neg e75] at hf
    cases hf) ((e_X11_compared_37 _ _ _).symm.trans h)
  · cases h
noncomputable def d_X11_compared (σ : zH)  : Option zH :=
  (d_X11_sum σ).bind fun σ1 =>
  (d_X11_sign σ1).bind fun p2 =>
  if p2.2 = (60 : Int32) then
    j_X11_compared_37 p2.1 p2.2
  else
    if p2.2 = (61 : Int32) then
      j_X11_compared_37 p2.1 p2.2
    else
      if p2.2 = (62 : Int32) then
        j_X11_compared_37 p2.1 p2.2
      else
        (d_X11_fails p2.1 (0 : Int32) (p2.1.1 11 0 31)).bind fun σ3 =>
        some σ3
theorem e_X11_compared (σ : zH)  : d_X11_compared σ = zin cc_X11_compared (fun t => if t = 37 then some (gl_X11_compared_37 j_X11_compared_37) else none) 9 krV b_X11_compared 0 σ [vR 11 0, vU, vU] [] := by
  unfold d_X11_compared
  refine Eq.symm ((zin_b (es := q_X11_compared_0) rfl).trans ?_)
  refine (t_X11_compared_0 _ _ _ _).trans ?_
  refine (x_callV rfl rfl rfl rfl).trans ((cl_X11_compared_X11_sum _ _ _).trans ((gr_X11_sum _ _).trans (pbd fun _ => ?_)))
  refine (t_X11_compared_4 _ _ _ _).trans ?_
  refine (x_callV rfl rfl rfl rfl).trans ((cl_X11_compared_X11_sign _ _ _).trans ((gr_X11_sign _ _).trans (pbd fun _ => ?_)))
  refine (t_X11_compared_8 _ _ _ _ _ _).trans ?_
  refine x_icmp.trans (pif_eq ?_ ?_)
  · exact (zrun_c rfl).trans (glr_X11_compared_37 _ _ _ _)
  · refine (t_X11_compared_15 _ _ _ _ _).trans ?_
    refine x_icmp.trans (pif_eq ?_ ?_)
    · exact (zrun_c rfl).trans (glr_X11_compared_37 _ _ _ _)
    · refine (t_X11_compared_21 _ _ _ _ _).trans ?_
      refine x_icmp.trans (pif_eq ?_ ?_)
      · exact (zrun_c rfl).trans (glr_X11_compared_37 _ _ _ _)
      · refine (t_X11_compared_27 _ _ _ _ _).trans ?_
        refine (x_callV rfl rfl rfl rfl).trans ((cl_X11_compared_X11_fails _ _ _).trans ((gr_X11_fails _ _ _ _).trans (pbd fun _ => ?_)))
        exact x_vret
noncomputable def g_X11_compared {ρ : Type} (σ : zH) (av : List zAV) (q : zH → zAV → Option ρ) : Option ρ := match av with
  | [.inr (.inr (.inl (11, 0)))] => (d_X11_compared σ).bind fun σ => q σ vU
  | _ => none
theorem gr_X11_compared {ρ : Type} (σ : zH)  (q : zH → zAV → Option ρ) : g_X11_compared σ [vR 11 0] q = (d_X11_compared σ).bind fun σ => q σ vU := rfl
theorem c_X11_compared {ρ : Type} {X : zX} (hX : zHX X) {σ : zH} {av : List zAV} {q : zH → zAV → Option ρ} {r : ρ} (h : g_X11_compared σ av q = some r) (hv : ∀ a ∈ av, zval X a) : zcon X 148 σ av q r := by
  unfold g_X11_compared at h
  split at h
  · exact zcon_V (n := 148) (ml := 3) (rc := 9) (st := 0) (kd := 11) (np := 0) (by decide +kernel) rfl ⟨_, _, rfl, rfl⟩ (Nat.le_of_ble_eq_true rfl) hv h (fun y h1 => (zin_ok (hy_X11_compared hX) bk_X11_compared (fun t f hf => by
      by_cases e37 : t = 37
      · rw [if_pos e37] at hf; subst e37; cases hf; exact (s_X11_compared_37 hX)
      rw [if_neg e37] at hf
      cases hf) ((e_X11_compared _).symm.trans h1)))
  · cases h
/-! SleepWavesModel.top()I -/
def q_X11_top_8 : List zEnt := zEa 8 (.goto 14) 3 22 :: []
def q_X11_top_7 : List zEnt := zEk 7 (.iconst (-1)) 1 (-1) :: q_X11_top_8
def q_X11_top_4 : List zEnt := zEa 4 (.ifCond .ne 7) 3 11 :: q_X11_top_7
def q_X11_top_0 : List zEnt := zE 0 (.aload_n 0) 1 :: zEf 1 (.getfield 278) 3 11 38 186 (0, 0, 0) :: q_X11_top_4
def q_X11_top_22 : List zEnt := zE 22 .ireturn 1 :: []
def q_X11_top_21 : List zEnt := zE 21 .iaload 1 :: q_X11_top_22
def q_X11_top_11 : List zEnt := zE 11 (.aload_n 0) 1 :: zEf 12 (.getfield 123) 3 11 48 196 (2, 77, 0) :: zE 15 (.aload_n 0) 1 :: zEf 16 (.getfield 278) 3 11 38 186 (0, 0, 0) :: zEk 19 (.iconst 1) 1 1 :: zE 20 .isub 1 :: q_X11_top_21
def b_X11_top : List (Nat × List zEnt) := [(0, q_X11_top_0), (11, q_X11_top_11), (22, q_X11_top_22)]
theorem bk_X11_top : zchB 149 b_X11_top = true := by decide +kernel
theorem hy_X11_top {ρ : Type} {X : zX} (hX : zHX X) : zHY X 149 (zc0 (ρ := ρ)) := zHX.hY hX (zc0_ok X) (zmok_all 149 (by decide))
theorem t_X11_top_0 {G : Nat → zH → List zAV → List zAV → Option (zH × Int32)} (es : List zEnt) (σ : zH)    : zev zc0 G 0 krI (zE 0 (.aload_n 0) 1 :: zEf 1 (.getfield 278) 3 11 38 186 (0, 0, 0) :: es) σ [vR 11 0] [] = zev zc0 G 0 krI es σ [vR 11 0] [vI (σ.1 11 0 38)] := rfl
theorem t_X11_top_7 {G : Nat → zH → List zAV → List zAV → Option (zH × Int32)} (es : List zEnt) (σ : zH)  (y0 : zAV) (w7 : Int32) : zev zc0 G 0 krI (zEk 7 (.iconst (-1)) 1 w7 :: es) σ [y0] [] = zev zc0 G 0 krI es σ [y0] [vI w7] := rfl
theorem t_X11_top_11 {G : Nat → zH → List zAV → List zAV → Option (zH × Int32)} (es : List zEnt) (σ : zH)   (w19 : Int32) : zev zc0 G 0 krI (zE 11 (.aload_n 0) 1 :: zEf 12 (.getfield 123) 3 11 48 196 (2, 77, 0) :: zE 15 (.aload_n 0) 1 :: zEf 16 (.getfield 278) 3 11 38 186 (0, 0, 0) :: zEk 19 (.iconst 1) 1 w19 :: zE 20 .isub 1 :: es) σ [vR 11 0] [] = zev zc0 G 0 krI es σ [vR 11 0] [vI ((σ.1 11 0 38) - w19), vR 77 0] := rfl
noncomputable def d_X11_top (σ : zH)  : Option (zH × Int32) :=
  if (σ.1 11 0 38) = 0 then
    some (σ, (-1 : Int32))
  else
    ix ((σ.1 11 0 38) - (1 : Int32)) 402 fun j1 =>
    some (σ, (σ.1 77 0 j1))
theorem e_X11_top (σ : zH)  : d_X11_top σ = zin zc0 (fun t => none) 0 krI b_X11_top 0 σ [vR 11 0] [] := by
  unfold d_X11_top
  refine Eq.symm ((zin_b (es := q_X11_top_0) rfl).trans ?_)
  refine (t_X11_top_0 _ _).trans ?_
  refine x_if.trans (pif_ne ?_ ?_)
  · refine (zrun_b (es := q_X11_top_11) rfl rfl).trans ?_
    refine (t_X11_top_11 _ _ _).trans ?_
    refine (x_iald (N := 402) rfl rfl).trans (pix fun _ => ?_)
    exact x_iret
  · refine (t_X11_top_7 _ _ _ _).trans ?_
    refine x_goto.trans ?_
    refine (zrun_b (es := q_X11_top_22) rfl rfl).trans ?_
    exact x_iret
noncomputable def g_X11_top {ρ : Type} (σ : zH) (av : List zAV) (q : zH → zAV → Option ρ) : Option ρ := match av with
  | [.inr (.inr (.inl (11, 0)))] => (d_X11_top σ).bind fun p => q p.1 (vI p.2)
  | _ => none
theorem gr_X11_top {ρ : Type} (σ : zH)  (q : zH → zAV → Option ρ) : g_X11_top σ [vR 11 0] q = (d_X11_top σ).bind fun p => q p.1 (vI p.2) := rfl
theorem c_X11_top {ρ : Type} {X : zX} (hX : zHX X) {σ : zH} {av : List zAV} {q : zH → zAV → Option ρ} {r : ρ} (h : g_X11_top σ av q = some r) (hv : ∀ a ∈ av, zval X a) : zcon X 149 σ av q r := by
  unfold g_X11_top at h
  split at h
  · exact zcon_I (n := 149) (ml := 1) (rc := 0) (st := 0) (kd := 11) (np := 0) (by decide +kernel) (by decide) ⟨_, _, rfl, rfl⟩ (Nat.le_of_ble_eq_true rfl) hv h (fun y h1 => (zin_ok (hy_X11_top hX) bk_X11_top (fun t f hf => by
      cases hf) ((e_X11_top _).symm.trans h1)))
  · cases h
/-! SleepWavesModel.opens(I)V -/
def q_X11_opens_9 : List zEnt := zEa 9 (.if_icmp .ne 31) 3 40 :: [zE 12 .nop 0]
def q_X11_opens_6 : List zEnt := zE 6 (.iload_n 1) 1 :: zEk 7 (.bipush 12) 2 12 :: q_X11_opens_9
def q_X11_opens_3 : List zEnt := zEa 3 (.if_icmp .eq 9) 3 12 :: q_X11_opens_6
def q_X11_opens_0 : List zEnt := zE 0 (.iload_n 1) 1 :: zEk 1 (.bipush 9) 2 9 :: q_X11_opens_3
def q_X11_opens_27 : List zEnt := zEc 27 (.invokevirtual 246) 3 137 3 123 1 :: [zE 30 .nop 0]
def q_X11_opens_21 : List zEnt := zE 21 (.aload_n 0) 1 :: zEk 22 (.iconst 2) 1 2 :: zE 23 (.aload_n 0) 1 :: zEf 24 (.getfield 211) 3 11 31 179 (0, 0, 0) :: q_X11_opens_27
def q_X11_opens_18 : List zEnt := zEa 18 (.if_icmp .ne 12) 3 30 :: q_X11_opens_21
def q_X11_opens_12 : List zEnt := zE 12 (.aload_n 0) 1 :: zEf 13 (.getfield 281) 3 11 36 184 (0, 0, 0) :: zEk 16 (.bipush 10) 2 10 :: q_X11_opens_18
def q_X11_opens_37 : List zEnt := zEf 37 (.putfield 281) 3 11 36 184 (0, 0, 0) :: [zE 40 .nop 0]
def q_X11_opens_30 : List zEnt := zE 30 (.aload_n 0) 1 :: zE 31 .dup 1 :: zEf 32 (.getfield 281) 3 11 36 184 (0, 0, 0) :: zEk 35 (.iconst 1) 1 1 :: zE 36 .iadd 1 :: q_X11_opens_37
def q_X11_opens_60 : List zEnt := zE 60 .return_ 1 :: []
def q_X11_opens_57 : List zEnt := zEf 57 (.putfield 278) 3 11 38 186 (0, 0, 0) :: q_X11_opens_60
def q_X11_opens_50 : List zEnt := zE 50 (.aload_n 0) 1 :: zE 51 .dup 1 :: zEf 52 (.getfield 278) 3 11 38 186 (0, 0, 0) :: zEk 55 (.iconst 1) 1 1 :: zE 56 .iadd 1 :: q_X11_opens_57
def q_X11_opens_49 : List zEnt := zE 49 .iastore 1 :: q_X11_opens_50
def q_X11_opens_40 : List zEnt := zE 40 (.aload_n 0) 1 :: zEf 41 (.getfield 123) 3 11 48 196 (2, 77, 0) :: zE 44 (.aload_n 0) 1 :: zEf 45 (.getfield 278) 3 11 38 186 (0, 0, 0) :: zE 48 (.iload_n 1) 1 :: q_X11_opens_49
def b_X11_opens : List (Nat × List zEnt) := [(0, q_X11_opens_0), (12, q_X11_opens_12), (30, q_X11_opens_30), (40, q_X11_opens_40)]
theorem bk_X11_opens : zchB 150 b_X11_opens = true := by decide +kernel
noncomputable def cc_X11_opens {ρ : Type} : Nat → zH → List zAV → (zH → zAV → Option ρ) → Option ρ := fun n σ av q => if n = 137 then g_X11_fails σ av q else none
theorem cs_X11_opens {ρ : Type} {X : zX} (hX : zHX X) : zCS X (cc_X11_opens (ρ := ρ)) := by
  intro n σ av q r h hv
  unfold cc_X11_opens at h
  by_cases e_X11_fails : n = 137
  · rw [if_pos e_X11_fails] at h
    subst e_X11_fails
    exact c_X11_fails hX h hv
  rw [if_neg e_X11_fails] at h
  cases h
theorem cl_X11_opens_X11_fails {ρ : Type} (σ : zH) (av : List zAV) (q : zH → zAV → Option ρ) : cc_X11_opens 137 σ av q = g_X11_fails σ av q := rfl
theorem hy_X11_opens {ρ : Type} {X : zX} (hX : zHX X) : zHY X 150 (cc_X11_opens (ρ := ρ)) := zHX.hY hX (cs_X11_opens hX) (zmok_all 150 (by decide))
def gl_X11_opens_12 {ρ : Type} (f : zH → Int32 → Option ρ) (σ : zH) (L st : List zAV) : Option ρ := match L, st with
  | [.inr (.inr (.inl (11, 0))), .inl x1], [] => f σ x1
  | _, _ => none
def gl_X11_opens_30 {ρ : Type} (f : zH → Int32 → Option ρ) (σ : zH) (L st : List zAV) : Option ρ := match L, st with
  | [.inr (.inr (.inl (11, 0))), .inl x1], [] => f σ x1
  | _, _ => none
def gl_X11_opens_40 {ρ : Type} (f : zH → Int32 → Option ρ) (σ : zH) (L st : List zAV) : Option ρ := match L, st with
  | [.inr (.inr (.inl (11, 0))), .inl x1], [] => f σ x1
  | _, _ => none
theorem glr_X11_opens_12 {ρ : Type} (f : zH → Int32 → Option ρ) (σ : zH) (x1 : Int32)  : gl_X11_opens_12 f σ [vR 11 0, vI x1] [] = f σ x1 := rfl
theorem glr_X11_opens_30 {ρ : Type} (f : zH → Int32 → Option ρ) (σ : zH) (x1 : Int32)  : gl_X11_opens_30 f σ [vR 11 0, vI x1] [] = f σ x1 := rfl
theorem glr_X11_opens_40 {ρ : Type} (f : zH → Int32 → Option ρ) (σ : zH) (x1 : Int32)  : gl_X11_opens_40 f σ [vR 11 0, vI x1] [] = f σ x1 := rfl
theorem t_X11_opens_0 {G : Nat → zH → List zAV → List zAV → Option zH} (es : List zEnt) (σ : zH) (x1 : Int32)  (w1 : Int32) : zev cc_X11_opens G 9 krV (zE 0 (.iload_n 1) 1 :: zEk 1 (.bipush 9) 2 w1 :: es) σ [vR 11 0, vI x1] [] = zev cc_X11_opens G 9 krV es σ [vR 11 0, vI x1] [vI w1, vI x1] := rfl
theorem t_X11_opens_6 {G : Nat → zH → List zAV → List zAV → Option zH} (es : List zEnt) (σ : zH) (x1 : Int32)  (w7 : Int32) : zev cc_X11_opens G 9 krV (zE 6 (.iload_n 1) 1 :: zEk 7 (.bipush 12) 2 w7 :: es) σ [vR 11 0, vI x1] [] = zev cc_X11_opens G 9 krV es σ [vR 11 0, vI x1] [vI w7, vI x1] := rfl
theorem t_X11_opens_12 {G : Nat → zH → List zAV → List zAV → Option zH} (es : List zEnt) (σ : zH) (x1 : Int32)  (w16 : Int32) : zev cc_X11_opens G 9 krV (zE 12 (.aload_n 0) 1 :: zEf 13 (.getfield 281) 3 11 36 184 (0, 0, 0) :: zEk 16 (.bipush 10) 2 w16 :: es) σ [vR 11 0, vI x1] [] = zev cc_X11_opens G 9 krV es σ [vR 11 0, vI x1] [vI w16, vI (σ.1 11 0 36)] := rfl
theorem t_X11_opens_21 {G : Nat → zH → List zAV → List zAV → Option zH} (es : List zEnt) (σ : zH) (x1 : Int32)  (w22 : Int32) : zev cc_X11_opens G 9 krV (zE 21 (.aload_n 0) 1 :: zEk 22 (.iconst 2) 1 w22 :: zE 23 (.aload_n 0) 1 :: zEf 24 (.getfield 211) 3 11 31 179 (0, 0, 0) :: es) σ [vR 11 0, vI x1] [] = zev cc_X11_opens G 9 krV es σ [vR 11 0, vI x1] [vI (σ.1 11 0 31), vI w22, vR 11 0] := rfl
theorem t_X11_opens_30 {G : Nat → zH → List zAV → List zAV → Option zH} (es : List zEnt) (σ : zH) (x1 : Int32)  (w35 : Int32) : zev cc_X11_opens G 9 krV (zE 30 (.aload_n 0) 1 :: zE 31 .dup 1 :: zEf 32 (.getfield 281) 3 11 36 184 (0, 0, 0) :: zEk 35 (.iconst 1) 1 w35 :: zE 36 .iadd 1 :: es) σ [vR 11 0, vI x1] [] = zev cc_X11_opens G 9 krV es σ [vR 11 0, vI x1] [vI ((σ.1 11 0 36) + w35), vR 11 0] := rfl
theorem t_X11_opens_40 {G : Nat → zH → List zAV → List zAV → Option zH} (es : List zEnt) (σ : zH) (x1 : Int32)   : zev cc_X11_opens G 9 krV (zE 40 (.aload_n 0) 1 :: zEf 41 (.getfield 123) 3 11 48 196 (2, 77, 0) :: zE 44 (.aload_n 0) 1 :: zEf 45 (.getfield 278) 3 11 38 186 (0, 0, 0) :: zE 48 (.iload_n 1) 1 :: es) σ [vR 11 0, vI x1] [] = zev cc_X11_opens G 9 krV es σ [vR 11 0, vI x1] [vI x1, vI (σ.1 11 0 38), vR 77 0] := rfl
theorem t_X11_opens_50 {G : Nat → zH → List zAV → List zAV → Option zH} (es : List zEnt) (σ : zH)  (y1 : zAV) (w55 : Int32) : zev cc_X11_opens G 9 krV (zE 50 (.aload_n 0) 1 :: zE 51 .dup 1 :: zEf 52 (.getfield 278) 3 11 38 186 (0, 0, 0) :: zEk 55 (.iconst 1) 1 w55 :: zE 56 .iadd 1 :: es) σ [vR 11 0, y1] [] = zev cc_X11_opens G 9 krV es σ [vR 11 0, y1] [vI ((σ.1 11 0 38) + w55), vR 11 0] := rfl
noncomputable def j_X11_opens_40  (σ : zH) (x1 : Int32) : Option zH :=
  ix (σ.1 11 0 38) 402 fun j3 =>
  zlet (uI σ 77 0 j3 x1) fun σ1 =>
  zlet (uI σ1 11 0 38 ((σ1.1 11 0 38) + (1 : Int32))) fun σ2 =>
  some σ2
theorem e_X11_opens_40  (σ : zH) (x1 : Int32)  : j_X11_opens_40 σ x1 = zin cc_X11_opens (fun t => none) 9 krV b_X11_opens 40 σ [vR 11 0, vI x1] [] := by
  unfold j_X11_opens_40
  refine Eq.symm ((zin_b (es := q_X11_opens_40) rfl).trans ?_)
  refine (t_X11_opens_40 _ _ _).trans ?_
  refine (x_iast (N := 402) rfl rfl).trans (pix fun _ => plt fun _ => ?_)
  refine (t_X11_opens_50 _ _ _ _).trans ?_
  refine x_pf0.trans (plt fun _ => ?_)
  exact x_vret
theorem s_X11_opens_40 {X : zX} (hX : zHX X)   : ∀ σ L st r, gl_X11_opens_40 j_X11_opens_40 σ L st = some r → zGW X 150 krV 40 σ L st r := by
  intro σ L st r h
  unfold gl_X11_opens_40 at h
  split at h
  · exact zin_ok (hy_X11_opens hX) bk_X11_opens (fun t f hf => by
    cases hf) ((e_X11_opens_40 _ _).symm.trans h)
  · cases h
noncomputable def j_X11_opens_30  (σ : zH) (x1 : Int32) : Option zH :=
  zlet (uI σ 11 0 36 ((σ.1 11 0 36) + (1 : Int32))) fun σ1 =>
  j_X11_opens_40 σ1 x1
theorem e_X11_opens_30  (σ : zH) (x1 : Int32)  : j_X11_opens_30 σ x1 = zin cc_X11_opens (fun t => if t = 40 then some (gl_X11_opens_40 j_X11_opens_40) else none) 9 krV b_X11_opens 30 σ [vR 11 0, vI x1] [] := by
  unfold j_X11_opens_30
  refine Eq.symm ((zin_b (es := q_X11_opens_30) rfl).trans ?_)
  refine (t_X11_opens_30 _ _ _ _).trans ?_
  refine x_pf0.trans (plt fun _ => ?_)
  refine x_cut.trans ?_
  exact (zrun_c rfl).trans (glr_X11_opens_40 _ _ _)
theorem s_X11_opens_30 {X : zX} (hX : zHX X)   : ∀ σ L st r, gl_X11_opens_30 j_X11_opens_30 σ L st = some r → zGW X 150 krV 30 σ L st r := by
  intro σ L st r h
  unfold gl_X11_opens_30 at h
  split at h
  · exact zin_ok (hy_X11_opens hX) bk_X11_opens (fun t f hf => by
    by_cases e40 : t = 40
    · rw [if_pos e40] at hf; subst e40; cases hf; exact (s_X11_opens_40 hX)
    rw [if_neg e40] at hf
    cases hf) ((e_X11_opens_30 _ _).symm.trans h)
  · cases h
noncomputable def j_X11_opens_12  (σ : zH) (x1 : Int32) : Option zH :=
  if (σ.1 11 0 36) = (10 : Int32) then
    (d_X11_fails σ (2 : Int32) (σ.1 11 0 31)).bind fun σ1 =>
    j_X11_opens_30 σ1 x1
  else
    j_X11_opens_30 σ x1
theorem e_X11_opens_12  (σ : zH) (x1 : Int32)  : j_X11_opens_12 σ x1 = zin cc_X11_opens (fun t => if t = 30 then some (gl_X11_opens_30 j_X11_opens_30) else none) 9 krV b_X11_opens 12 σ [vR 11 0, vI x1] [] := by
  unfold j_X11_opens_12
  refine Eq.symm ((zin_b (es := q_X11_opens_12) rfl).trans ?_)
  refine (t_X11_opens_12 _ _ _ _).trans ?_
  refine x_icmp.trans (pif_ne ?_ ?_)
  · exact (zrun_c rfl).trans (glr_X11_opens_30 _ _ _)
  · refine (t_X11_opens_21 _ _ _ _).trans ?_
    refine (x_callV rfl rfl rfl rfl).trans ((cl_X11_opens_X11_fails _ _ _).trans ((gr_X11_fails _ _ _ _).trans (pbd fun _ => ?_)))
    refine x_cut.trans ?_
    exact (zrun_c rfl).trans (glr_X11_opens_30 _ _ _)
theorem s_X11_opens_12 {X : zX} (hX : zHX X)   : ∀ σ L st r, gl_X11_opens_12 j_X11_opens_12 σ L st = some r → zGW X 150 krV 12 σ L st r := by
  intro σ L st r h
  unfold gl_X11_opens_12 at h
  split at h
  · exact zin_ok (hy_X11_opens hX) bk_X11_opens (fun t f hf => by
    by_cases e30 : t = 30
    · rw [if_pos e30] at hf; subst e30; cases hf; exact (s_X11_opens_30 hX)
    rw [if_neg e30] at hf
    cases hf) ((e_X11_opens_12 _ _).symm.trans h)
  · cases h
noncomputable def d_X11_opens (σ : zH) (xa1 : Int32) : Option zH :=
  if xa1 = (9 : Int32) then
    j_X11_opens_12 σ xa1
  else
    if xa1 = (12 : Int32) then
      j_X11_opens_12 σ xa1
    else
      j_X11_opens_40 σ xa1
theorem e_X11_opens (σ : zH) (xa1 : Int32) : d_X11_opens σ xa1 = zin cc_X11_opens (fun t => if t = 12 then some (gl_X11_opens_12 j_X11_opens_12) else if t = 40 then some (gl_X11_opens_40 j_X11_opens_40) else none) 9 krV b_X11_opens 0 σ [vR 11 0, vI xa1] [] := by
  unfold d_X11_opens
  refine Eq.symm ((zin_b (es := q_X11_opens_0) rfl).trans ?_)
  refine (t_X11_opens_0 _ _ _ _).trans ?_
  refine x_icmp.trans (pif_eq ?_ ?_)
  · exact (zrun_c rfl).trans (glr_X11_opens_12 _ _ _)
  · refine (t_X11_opens_6 _ _ _ _).trans ?_
    refine x_icmp.trans (pif_ne ?_ ?_)
    · exact (zrun_c rfl).trans (glr_X11_opens_40 _ _ _)
    · refine x_cut.trans ?_
      exact (zrun_c rfl).trans (glr_X11_opens_12 _ _ _)
noncomputable def g_X11_opens {ρ : Type} (σ : zH) (av : List zAV) (q : zH → zAV → Option ρ) : Option ρ := match av with
  | [.inr (.inr (.inl (11, 0))), .inl xa1] => (d_X11_opens σ xa1).bind fun σ => q σ vU
  | _ => none
theorem gr_X11_opens {ρ : Type} (σ : zH) (xa1 : Int32) (q : zH → zAV → Option ρ) : g_X11_opens σ [vR 11 0, vI xa1] q = (d_X11_opens σ xa1).bind fun σ => q σ vU := rfl
theorem c_X11_opens {ρ : Type} {X : zX} (hX : zHX X) {σ : zH} {av : List zAV} {q : zH → zAV → Option ρ} {r : ρ} (h : g_X11_opens σ av q = some r) (hv : ∀ a ∈ av, zval X a) : zcon X 150 σ av q r := by
  unfold g_X11_opens at h
  split at h
  · exact zcon_V (n := 150) (ml := 2) (rc := 9) (st := 0) (kd := 11) (np := 1) (by decide +kernel) rfl ⟨_, _, rfl, rfl⟩ (Nat.le_of_ble_eq_true rfl) hv h (fun y h1 => (zin_ok (hy_X11_opens hX) bk_X11_opens (fun t f hf => by
      by_cases e12 : t = 12
      · rw [if_pos e12] at hf; subst e12; cases hf; exact (s_X11_opens_12 hX)
      rw [if_neg e12] at hf
      by_cases e40 : t = 40
      · rw [if_pos e40] at hf; subst e40; cases hf; exact (s_X11_opens_40 hX)
      rw [if_neg e40] at hf
      cases hf) ((e_X11_opens _ _).symm.trans h1)))
  · cases h
/-! SleepWavesModel.answers(I)V -/
def q_X11_answers_43 : List zEnt := zEa 43 (.goto 4) 3 47 :: []
def q_X11_answers_42 : List zEnt := zEk 42 (.iconst 1) 1 1 :: q_X11_answers_43
def q_X11_answers_39 : List zEnt := zEa 39 (.if_icmp .ne 7) 3 46 :: q_X11_answers_42
def q_X11_answers_31 : List zEnt := zE 31 (.aload_n 0) 1 :: zE 32 .dup 1 :: zEf 33 (.getfield 281) 3 11 36 184 (0, 0, 0) :: zE 36 (.iload_n 1) 1 :: zEk 37 (.bipush 9) 2 9 :: q_X11_answers_39
def q_X11_answers_28 : List zEnt := zEf 28 (.putfield 278) 3 11 38 186 (0, 0, 0) :: q_X11_answers_31
def q_X11_answers_21 : List zEnt := zE 21 (.aload_n 0) 1 :: zE 22 .dup 1 :: zEf 23 (.getfield 278) 3 11 38 186 (0, 0, 0) :: zEk 26 (.iconst 1) 1 1 :: zE 27 .isub 1 :: q_X11_answers_28
def q_X11_answers_18 : List zEnt := zEc 18 (.invokevirtual 262) 3 142 3 141 1 :: q_X11_answers_21
def q_X11_answers_15 : List zEnt := zE 15 (.aload_n 0) 1 :: zE 16 (.iload_n 1) 1 :: zEk 17 (.iconst 0) 1 0 :: q_X11_answers_18
def q_X11_answers_12 : List zEnt := zEa 12 (.ifCond .ne 42) 3 54 :: q_X11_answers_15
def q_X11_answers_8 : List zEnt := zE 8 (.aload_n 0) 1 :: zEf 9 (.getfield 208) 3 11 32 180 (0, 0, 0) :: q_X11_answers_12
def q_X11_answers_5 : List zEnt := zEa 5 (.if_icmp .ne 49) 3 54 :: q_X11_answers_8
def q_X11_answers_4 : List zEnt := zE 4 (.iload_n 1) 1 :: q_X11_answers_5
def q_X11_answers_1 : List zEnt := zEc 1 (.invokevirtual 284) 3 149 1 144 0 :: q_X11_answers_4
def q_X11_answers_0 : List zEnt := zE 0 (.aload_n 0) 1 :: q_X11_answers_1
def q_X11_answers_46 : List zEnt := zEk 46 (.iconst 0) 1 0 :: [zE 47 .nop 0]
def q_X11_answers_51 : List zEnt := zEa 51 (.goto (-51)) 3 0 :: []
def q_X11_answers_48 : List zEnt := zEf 48 (.putfield 281) 3 11 36 184 (0, 0, 0) :: q_X11_answers_51
def q_X11_answers_47 : List zEnt := zE 47 .isub 1 :: q_X11_answers_48
def q_X11_answers_54 : List zEnt := zE 54 .return_ 1 :: []
def b_X11_answers : List (Nat × List zEnt) := [(0, q_X11_answers_0), (46, q_X11_answers_46), (47, q_X11_answers_47), (54, q_X11_answers_54)]
theorem bk_X11_answers : zchB 151 b_X11_answers = true := by decide +kernel
noncomputable def cc_X11_answers {ρ : Type} : Nat → zH → List zAV → (zH → zAV → Option ρ) → Option ρ := fun n σ av q => if n = 149 then g_X11_top σ av q else if n = 142 then g_X11_entry σ av q else none
theorem cs_X11_answers {ρ : Type} {X : zX} (hX : zHX X) : zCS X (cc_X11_answers (ρ := ρ)) := by
  intro n σ av q r h hv
  unfold cc_X11_answers at h
  by_cases e_X11_top : n = 149
  · rw [if_pos e_X11_top] at h
    subst e_X11_top
    exact c_X11_top hX h hv
  rw [if_neg e_X11_top] at h
  by_cases e_X11_entry : n = 142
  · rw [if_pos e_X11_entry] at h
    subst e_X11_entry
    exact c_X11_entry hX h hv
  rw [if_neg e_X11_entry] at h
  cases h
theorem cl_X11_answers_X11_top {ρ : Type} (σ : zH) (av : List zAV) (q : zH → zAV → Option ρ) : cc_X11_answers 149 σ av q = g_X11_top σ av q := rfl
theorem cl_X11_answers_X11_entry {ρ : Type} (σ : zH) (av : List zAV) (q : zH → zAV → Option ρ) : cc_X11_answers 142 σ av q = g_X11_entry σ av q := rfl
theorem hy_X11_answers {ρ : Type} {X : zX} (hX : zHX X) : zHY X 151 (cc_X11_answers (ρ := ρ)) := zHX.hY hX (cs_X11_answers hX) (zmok_all 151 (by decide))
def gl_X11_answers_0 {ρ : Type} (f : zH → Int32 → Option ρ) (σ : zH) (L st : List zAV) : Option ρ := match L, st with
  | [.inr (.inr (.inl (11, 0))), .inl x1], [] => f σ x1
  | _, _ => none
def gl_X11_answers_47 {ρ : Type} (f : zH → Int32 → Int32 → Int32 → Option ρ) (σ : zH) (L st : List zAV) : Option ρ := match L, st with
  | [.inr (.inr (.inl (11, 0))), .inl x1], [.inl xs2, .inl xs1, .inr (.inr (.inl (11, 0)))] => f σ x1 xs1 xs2
  | _, _ => none
theorem glr_X11_answers_0 {ρ : Type} (f : zH → Int32 → Option ρ) (σ : zH) (x1 : Int32)  : gl_X11_answers_0 f σ [vR 11 0, vI x1] [] = f σ x1 := rfl
theorem glr_X11_answers_47 {ρ : Type} (f : zH → Int32 → Int32 → Int32 → Option ρ) (σ : zH) (x1 : Int32) (xs1 : Int32) (xs2 : Int32)  : gl_X11_answers_47 f σ [vR 11 0, vI x1] [vI xs2, vI xs1, vR 11 0] = f σ x1 xs1 xs2 := rfl
theorem t_X11_answers_0 {G : Nat → zH → List zAV → List zAV → Option zH} (es : List zEnt) (σ : zH) (x1 : Int32)   : zev cc_X11_answers G 9 krV (zE 0 (.aload_n 0) 1 :: es) σ [vR 11 0, vI x1] [] = zev cc_X11_answers G 9 krV es σ [vR 11 0, vI x1] [vR 11 0] := rfl
theorem t_X11_answers_4 {G : Nat → zH → List zAV → List zAV → Option zH} (es : List zEnt) (σ : zH) (x1 : Int32) (xs0 : Int32)   : zev cc_X11_answers G 9 krV (zE 4 (.iload_n 1) 1 :: es) σ [vR 11 0, vI x1] [vI xs0] = zev cc_X11_answers G 9 krV es σ [vR 11 0, vI x1] [vI x1, vI xs0] := rfl
theorem t_X11_answers_8 {G : Nat → zH → List zAV → List zAV → Option zH} (es : List zEnt) (σ : zH) (x1 : Int32)   : zev cc_X11_answers G 9 krV (zE 8 (.aload_n 0) 1 :: zEf 9 (.getfield 208) 3 11 32 180 (0, 0, 0) :: es) σ [vR 11 0, vI x1] [] = zev cc_X11_answers G 9 krV es σ [vR 11 0, vI x1] [vI (σ.1 11 0 32)] := rfl
theorem t_X11_answers_15 {G : Nat → zH → List zAV → List zAV → Option zH} (es : List zEnt) (σ : zH) (x1 : Int32)  (w17 : Int32) : zev cc_X11_answers G 9 krV (zE 15 (.aload_n 0) 1 :: zE 16 (.iload_n 1) 1 :: zEk 17 (.iconst 0) 1 w17 :: es) σ [vR 11 0, vI x1] [] = zev cc_X11_answers G 9 krV es σ [vR 11 0, vI x1] [vI w17, vI x1, vR 11 0] := rfl
theorem t_X11_answers_21 {G : Nat → zH → List zAV → List zAV → Option zH} (es : List zEnt) (σ : zH) (x1 : Int32)  (w26 : Int32) : zev cc_X11_answers G 9 krV (zE 21 (.aload_n 0) 1 :: zE 22 .dup 1 :: zEf 23 (.getfield 278) 3 11 38 186 (0, 0, 0) :: zEk 26 (.iconst 1) 1 w26 :: zE 27 .isub 1 :: es) σ [vR 11 0, vI x1] [] = zev cc_X11_answers G 9 krV es σ [vR 11 0, vI x1] [vI ((σ.1 11 0 38) - w26), vR 11 0] := rfl
theorem t_X11_answers_31 {G : Nat → zH → List zAV → List zAV → Option zH} (es : List zEnt) (σ : zH) (x1 : Int32)  (w37 : Int32) : zev cc_X11_answers G 9 krV (zE 31 (.aload_n 0) 1 :: zE 32 .dup 1 :: zEf 33 (.getfield 281) 3 11 36 184 (0, 0, 0) :: zE 36 (.iload_n 1) 1 :: zEk 37 (.bipush 9) 2 w37 :: es) σ [vR 11 0, vI x1] [] = zev cc_X11_answers G 9 krV es σ [vR 11 0, vI x1] [vI w37, vI x1, vI (σ.1 11 0 36), vR 11 0] := rfl
theorem t_X11_answers_42 {G : Nat → zH → List zAV → List zAV → Option zH} (es : List zEnt) (σ : zH) (x1 : Int32) (xs1 : Int32)  (w42 : Int32) : zev cc_X11_answers G 9 krV (zEk 42 (.iconst 1) 1 w42 :: es) σ [vR 11 0, vI x1] [vI xs1, vR 11 0] = zev cc_X11_answers G 9 krV es σ [vR 11 0, vI x1] [vI w42, vI xs1, vR 11 0] := rfl
theorem t_X11_answers_46 {G : Nat → zH → List zAV → List zAV → Option zH} (es : List zEnt) (σ : zH) (x1 : Int32) (xs1 : Int32)  (w46 : Int32) : zev cc_X11_answers G 9 krV (zEk 46 (.iconst 0) 1 w46 :: es) σ [vR 11 0, vI x1] [vI xs1, vR 11 0] = zev cc_X11_answers G 9 krV es σ [vR 11 0, vI x1] [vI w46, vI xs1, vR 11 0] := rfl
theorem t_X11_answers_47 {G : Nat → zH → List zAV → List zAV → Option zH} (es : List zEnt) (σ : zH) (x1 : Int32) (xs1 : Int32) (xs2 : Int32)   : zev cc_X11_answers G 9 krV (zE 47 .isub 1 :: es) σ [vR 11 0, vI x1] [vI xs2, vI xs1, vR 11 0] = zev cc_X11_answers G 9 krV es σ [vR 11 0, vI x1] [vI (xs1 - xs2), vR 11 0] := rfl
noncomputable def j_X11_answers_47 (c0 : zH → Int32 → Option zH) (σ : zH) (x1 : Int32) (xs1 : Int32) (xs2 : Int32) : Option zH :=
  zlet (uI σ 11 0 36 (xs1 - xs2)) fun σ1 =>
  c0 σ1 x1
theorem e_X11_answers_47 (c0 : zH → Int32 → Option zH) (σ : zH) (x1 : Int32) (xs1 : Int32) (xs2 : Int32)  : j_X11_answers_47 c0 σ x1 xs1 xs2 = zin cc_X11_answers (fun t => if t = 0 then some (gl_X11_answers_0 c0) else none) 9 krV b_X11_answers 47 σ [vR 11 0, vI x1] [vI xs2, vI xs1, vR 11 0] := by
  unfold j_X11_answers_47
  refine Eq.symm ((zin_b (es := q_X11_answers_47) rfl).trans ?_)
  refine (t_X11_answers_47 _ _ _ _ _).trans ?_
  refine x_pf0.trans (plt fun _ => ?_)
  refine x_goto.trans ?_
  exact (zrun_c rfl).trans (glr_X11_answers_0 _ _ _)
theorem s_X11_answers_47 {X : zX} (hX : zHX X) {c0 : zH → Int32 → Option zH} (h0 : ∀ σ L st r, gl_X11_answers_0 c0 σ L st = some r → zGW X 151 krV 0 σ L st r) : ∀ σ L st r, gl_X11_answers_47 (j_X11_answers_47 c0) σ L st = some r → zGW X 151 krV 47 σ L st r := by
  intro σ L st r h
  unfold gl_X11_answers_47 at h
  split at h
  · exact zin_ok (hy_X11_answers hX) bk_X11_answers (fun t f hf => by
    by_cases e0 : t = 0
    · rw [if_pos e0] at hf; subst e0; cases hf; exact h0
    rw [if_neg e0] at hf
    cases hf) ((e_X11_answers_47 _ _ _ _ _).symm.trans h)
  · cases h
noncomputable def k_X11_answers_0  : Nat → zH → Int32 → Option zH
  | 0, _, _ => none
  | n + 1, σ, x1 =>
    (d_X11_top σ).bind fun p1 =>
    if p1.2 = x1 then
      if (p1.1.1 11 0 32) = 0 then
        (d_X11_entry p1.1 x1 (0 : Int32)).bind fun σ2 =>
        zlet (uI σ2 11 0 38 ((σ2.1 11 0 38) - (1 : Int32))) fun σ3 =>
        if x1 = (9 : Int32) then
          (j_X11_answers_47 (k_X11_answers_0 n)) σ3 x1 (σ3.1 11 0 36) (1 : Int32)
        else
          (j_X11_answers_47 (k_X11_answers_0 n)) σ3 x1 (σ3.1 11 0 36) (0 : Int32)
      else
        some p1.1
    else
      some p1.1
theorem e_X11_answers_0  (n : Nat) (σ : zH) (x1 : Int32)  : k_X11_answers_0 (n + 1) σ x1 = zin cc_X11_answers (fun t => if t = 47 then some (gl_X11_answers_47 (j_X11_answers_47 (k_X11_answers_0 n))) else none) 9 krV b_X11_answers 0 σ [vR 11 0, vI x1] [] := by
  rw [k_X11_answers_0]
  refine Eq.symm ((zin_b (es := q_X11_answers_0) rfl).trans ?_)
  refine (t_X11_answers_0 _ _ _).trans ?_
  refine (x_callV rfl rfl rfl rfl).trans ((cl_X11_answers_X11_top _ _ _).trans ((gr_X11_top _ _).trans (pbd fun _ => ?_)))
  refine (t_X11_answers_4 _ _ _ _).trans ?_
  refine x_icmp.trans (pif_ne ?_ ?_)
  · refine (zrun_b (es := q_X11_answers_54) rfl rfl).trans ?_
    exact x_vret
  · refine (t_X11_answers_8 _ _ _).trans ?_
    refine x_if.trans (pif_ne ?_ ?_)
    · refine (zrun_b (es := q_X11_answers_54) rfl rfl).trans ?_
      exact x_vret
    · refine (t_X11_answers_15 _ _ _ _).trans ?_
      refine (x_callV rfl rfl rfl rfl).trans ((cl_X11_answers_X11_entry _ _ _).trans ((gr_X11_entry _ _ _ _).trans (pbd fun _ => ?_)))
      refine (t_X11_answers_21 _ _ _ _).trans ?_
      refine x_pf0.trans (plt fun _ => ?_)
      refine (t_X11_answers_31 _ _ _ _).trans ?_
      refine x_icmp.trans (pif_ne ?_ ?_)
      · refine (zrun_b (es := q_X11_answers_46) rfl rfl).trans ?_
        refine (t_X11_answers_46 _ _ _ _ _).trans ?_
        refine x_cut.trans ?_
        exact (zrun_c rfl).trans (glr_X11_answers_47 _ _ _ _ _)
      · refine (t_X11_answers_42 _ _ _ _ _).trans ?_
        refine x_goto.trans ?_
        exact (zrun_c rfl).trans (glr_X11_answers_47 _ _ _ _ _)
theorem s_X11_answers_0 {X : zX} (hX : zHX X)   : ∀ n σ L st r, gl_X11_answers_0 (k_X11_answers_0 n) σ L st = some r → zGW X 151 krV 0 σ L st r := by
  intro n
  induction n with
  | zero =>
    intro σ L st r h
    unfold gl_X11_answers_0 at h
    split at h <;> cases h
  | succ n ih =>
    intro σ L st r h
    unfold gl_X11_answers_0 at h
    split at h
    · exact zin_ok (hy_X11_answers hX) bk_X11_answers (fun t f hf => by
      by_cases e47 : t = 47
      · rw [if_pos e47] at hf; subst e47; cases hf; exact (s_X11_answers_47 hX ih)
      rw [if_neg e47] at hf
      cases hf) ((e_X11_answers_0 _ _ _).symm.trans h)
    · cases h
noncomputable def d_X11_answers (σ : zH) (xa1 : Int32) : Option zH :=
  (k_X11_answers_0 zN) σ xa1
theorem e_X11_answers (σ : zH) (xa1 : Int32) : d_X11_answers σ xa1 = gl_X11_answers_0 (k_X11_answers_0 zN) σ [vR 11 0, vI xa1] [] := by
  unfold d_X11_answers
  exact (glr_X11_answers_0 _ _ _).symm
noncomputable def g_X11_answers {ρ : Type} (σ : zH) (av : List zAV) (q : zH → zAV → Option ρ) : Option ρ := match av with
  | [.inr (.inr (.inl (11, 0))), .inl xa1] => (d_X11_answers σ xa1).bind fun σ => q σ vU
  | _ => none
theorem gr_X11_answers {ρ : Type} (σ : zH) (xa1 : Int32) (q : zH → zAV → Option ρ) : g_X11_answers σ [vR 11 0, vI xa1] q = (d_X11_answers σ xa1).bind fun σ => q σ vU := rfl
theorem c_X11_answers {ρ : Type} {X : zX} (hX : zHX X) {σ : zH} {av : List zAV} {q : zH → zAV → Option ρ} {r : ρ} (h : g_X11_answers σ av q = some r) (hv : ∀ a ∈ av, zval X a) : zcon X 151 σ av q r := by
  unfold g_X11_answers at h
  split at h
  · exact zcon_V (n := 151) (ml := 2) (rc := 9) (st := 0) (kd := 11) (np := 1) (by decide +kernel) rfl ⟨_, _, rfl, rfl⟩ (Nat.le_of_ble_eq_true rfl) hv h (fun y h1 => (((fun σ L st r h => s_X11_answers_0 hX  zN σ L st r h)) σ _ _ _ ((e_X11_answers _ _).symm.trans h1)))
  · cases h
/-! SleepWavesModel.fact()Z -/
def q_X11_fact_31 : List zEnt := zE 31 .ireturn 1 :: []
def q_X11_fact_30 : List zEnt := zEk 30 (.iconst 0) 1 0 :: q_X11_fact_31
def q_X11_fact_27 : List zEnt := zEf 27 (.putfield 211) 3 11 31 179 (0, 0, 0) :: q_X11_fact_30
def q_X11_fact_20 : List zEnt := zE 20 (.aload_n 0) 1 :: zE 21 .dup 1 :: zEf 22 (.getfield 211) 3 11 31 179 (0, 0, 0) :: zEk 25 (.iconst 3) 1 3 :: zE 26 .iadd 1 :: q_X11_fact_27
def q_X11_fact_17 : List zEnt := zEc 17 (.invokevirtual 289) 3 150 2 135 1 :: q_X11_fact_20
def q_X11_fact_14 : List zEnt := zE 14 (.aload_n 0) 1 :: zEk 15 (.bipush 9) 2 9 :: q_X11_fact_17
def q_X11_fact_11 : List zEnt := zEa 11 (.ifCond .eq 21) 3 32 :: q_X11_fact_14
def q_X11_fact_8 : List zEnt := zEc 8 (.invokevirtual 233) 3 141 2 122 0 :: q_X11_fact_11
def q_X11_fact_4 : List zEnt := zE 4 (.aload_n 0) 1 :: (5, (.ldc_w 287), 3, (1, 25, 0, 0), (0, 0, 0), 0, 0, []) :: q_X11_fact_8
def q_X11_fact_1 : List zEnt := zEc 1 (.invokevirtual 230) 3 139 1 119 1 :: q_X11_fact_4
def q_X11_fact_0 : List zEnt := zE 0 (.aload_n 0) 1 :: q_X11_fact_1
def q_X11_fact_58 : List zEnt := zE 58 .ireturn 1 :: []
def q_X11_fact_57 : List zEnt := zEk 57 (.iconst 0) 1 0 :: q_X11_fact_58
def q_X11_fact_54 : List zEnt := zEf 54 (.putfield 211) 3 11 31 179 (0, 0, 0) :: q_X11_fact_57
def q_X11_fact_47 : List zEnt := zE 47 (.aload_n 0) 1 :: zE 48 .dup 1 :: zEf 49 (.getfield 211) 3 11 31 179 (0, 0, 0) :: zEk 52 (.iconst 1) 1 1 :: zE 53 .iadd 1 :: q_X11_fact_54
def q_X11_fact_44 : List zEnt := zEc 44 (.invokevirtual 289) 3 150 2 135 1 :: q_X11_fact_47
def q_X11_fact_41 : List zEnt := zE 41 (.aload_n 0) 1 :: zEk 42 (.bipush 12) 2 12 :: q_X11_fact_44
def q_X11_fact_38 : List zEnt := zEa 38 (.if_icmp .ne 21) 3 59 :: q_X11_fact_41
def q_X11_fact_36 : List zEnt := zEk 36 (.bipush 91) 2 91 :: q_X11_fact_38
def q_X11_fact_33 : List zEnt := zEc 33 (.invokevirtual 214) 3 138 1 120 0 :: q_X11_fact_36
def q_X11_fact_32 : List zEnt := zE 32 (.aload_n 0) 1 :: q_X11_fact_33
def q_X11_fact_64 : List zEnt := zE 64 .ireturn 1 :: []
def q_X11_fact_63 : List zEnt := zEk 63 (.iconst 1) 1 1 :: q_X11_fact_64
def q_X11_fact_60 : List zEnt := zEc 60 (.invokevirtual 292) 3 148 1 136 1 :: q_X11_fact_63
def q_X11_fact_59 : List zEnt := zE 59 (.aload_n 0) 1 :: q_X11_fact_60
def b_X11_fact : List (Nat × List zEnt) := [(0, q_X11_fact_0), (32, q_X11_fact_32), (59, q_X11_fact_59)]
theorem bk_X11_fact : zchB 152 b_X11_fact = true := by decide +kernel
noncomputable def cc_X11_fact {ρ : Type} : Nat → zH → List zAV → (zH → zAV → Option ρ) → Option ρ := fun n σ av q => if n = 139 then g_X11_blanks σ av q else if n = 141 then g_X11_stood σ av q else if n = 150 then g_X11_opens σ av q else if n = 138 then g_X11_sign σ av q else if n = 148 then g_X11_compared σ av q else none
theorem cs_X11_fact {ρ : Type} {X : zX} (hX : zHX X) : zCS X (cc_X11_fact (ρ := ρ)) := by
  intro n σ av q r h hv
  unfold cc_X11_fact at h
  by_cases e_X11_blanks : n = 139
  · rw [if_pos e_X11_blanks] at h
    subst e_X11_blanks
    exact c_X11_blanks hX h hv
  rw [if_neg e_X11_blanks] at h
  by_cases e_X11_stood : n = 141
  · rw [if_pos e_X11_stood] at h
    subst e_X11_stood
    exact c_X11_stood hX h hv
  rw [if_neg e_X11_stood] at h
  by_cases e_X11_opens : n = 150
  · rw [if_pos e_X11_opens] at h
    subst e_X11_opens
    exact c_X11_opens hX h hv
  rw [if_neg e_X11_opens] at h
  by_cases e_X11_sign : n = 138
  · rw [if_pos e_X11_sign] at h
    subst e_X11_sign
    exact c_X11_sign hX h hv
  rw [if_neg e_X11_sign] at h
  by_cases e_X11_compared : n = 148
  · rw [if_pos e_X11_compared] at h
    subst e_X11_compared
    exact c_X11_compared hX h hv
  rw [if_neg e_X11_compared] at h
  cases h
theorem cl_X11_fact_X11_blanks {ρ : Type} (σ : zH) (av : List zAV) (q : zH → zAV → Option ρ) : cc_X11_fact 139 σ av q = g_X11_blanks σ av q := rfl
theorem cl_X11_fact_X11_stood {ρ : Type} (σ : zH) (av : List zAV) (q : zH → zAV → Option ρ) : cc_X11_fact 141 σ av q = g_X11_stood σ av q := rfl
theorem cl_X11_fact_X11_opens {ρ : Type} (σ : zH) (av : List zAV) (q : zH → zAV → Option ρ) : cc_X11_fact 150 σ av q = g_X11_opens σ av q := rfl
theorem cl_X11_fact_X11_sign {ρ : Type} (σ : zH) (av : List zAV) (q : zH → zAV → Option ρ) : cc_X11_fact 138 σ av q = g_X11_sign σ av q := rfl
theorem cl_X11_fact_X11_compared {ρ : Type} (σ : zH) (av : List zAV) (q : zH → zAV → Option ρ) : cc_X11_fact 148 σ av q = g_X11_compared σ av q := rfl
theorem hy_X11_fact {ρ : Type} {X : zX} (hX : zHX X) : zHY X 152 (cc_X11_fact (ρ := ρ)) := zHX.hY hX (cs_X11_fact hX) (zmok_all 152 (by decide))
theorem t_X11_fact_0 {G : Nat → zH → List zAV → List zAV → Option (zH × Int32)} (es : List zEnt) (σ : zH)    : zev cc_X11_fact G 1 krI (zE 0 (.aload_n 0) 1 :: es) σ [vR 11 0] [] = zev cc_X11_fact G 1 krI es σ [vR 11 0] [vR 11 0] := rfl
theorem t_X11_fact_4 {G : Nat → zH → List zAV → List zAV → Option (zH × Int32)} (es : List zEnt) (σ : zH)    : zev cc_X11_fact G 1 krI (zE 4 (.aload_n 0) 1 :: (5, (.ldc_w 287), 3, (1, 25, 0, 0), (0, 0, 0), 0, 0, []) :: es) σ [vR 11 0] [] = zev cc_X11_fact G 1 krI es σ [vR 11 0] [vR 200 25, vR 11 0] := rfl
theorem t_X11_fact_14 {G : Nat → zH → List zAV → List zAV → Option (zH × Int32)} (es : List zEnt) (σ : zH)   (w15 : Int32) : zev cc_X11_fact G 1 krI (zE 14 (.aload_n 0) 1 :: zEk 15 (.bipush 9) 2 w15 :: es) σ [vR 11 0] [] = zev cc_X11_fact G 1 krI es σ [vR 11 0] [vI w15, vR 11 0] := rfl
theorem t_X11_fact_20 {G : Nat → zH → List zAV → List zAV → Option (zH × Int32)} (es : List zEnt) (σ : zH)   (w25 : Int32) : zev cc_X11_fact G 1 krI (zE 20 (.aload_n 0) 1 :: zE 21 .dup 1 :: zEf 22 (.getfield 211) 3 11 31 179 (0, 0, 0) :: zEk 25 (.iconst 3) 1 w25 :: zE 26 .iadd 1 :: es) σ [vR 11 0] [] = zev cc_X11_fact G 1 krI es σ [vR 11 0] [vI ((σ.1 11 0 31) + w25), vR 11 0] := rfl
theorem t_X11_fact_30 {G : Nat → zH → List zAV → List zAV → Option (zH × Int32)} (es : List zEnt) (σ : zH)  (y0 : zAV) (w30 : Int32) : zev cc_X11_fact G 1 krI (zEk 30 (.iconst 0) 1 w30 :: es) σ [y0] [] = zev cc_X11_fact G 1 krI es σ [y0] [vI w30] := rfl
theorem t_X11_fact_32 {G : Nat → zH → List zAV → List zAV → Option (zH × Int32)} (es : List zEnt) (σ : zH)    : zev cc_X11_fact G 1 krI (zE 32 (.aload_n 0) 1 :: es) σ [vR 11 0] [] = zev cc_X11_fact G 1 krI es σ [vR 11 0] [vR 11 0] := rfl
theorem t_X11_fact_36 {G : Nat → zH → List zAV → List zAV → Option (zH × Int32)} (es : List zEnt) (σ : zH) (xs0 : Int32)  (w36 : Int32) : zev cc_X11_fact G 1 krI (zEk 36 (.bipush 91) 2 w36 :: es) σ [vR 11 0] [vI xs0] = zev cc_X11_fact G 1 krI es σ [vR 11 0] [vI w36, vI xs0] := rfl
theorem t_X11_fact_41 {G : Nat → zH → List zAV → List zAV → Option (zH × Int32)} (es : List zEnt) (σ : zH)   (w42 : Int32) : zev cc_X11_fact G 1 krI (zE 41 (.aload_n 0) 1 :: zEk 42 (.bipush 12) 2 w42 :: es) σ [vR 11 0] [] = zev cc_X11_fact G 1 krI es σ [vR 11 0] [vI w42, vR 11 0] := rfl
theorem t_X11_fact_47 {G : Nat → zH → List zAV → List zAV → Option (zH × Int32)} (es : List zEnt) (σ : zH)   (w52 : Int32) : zev cc_X11_fact G 1 krI (zE 47 (.aload_n 0) 1 :: zE 48 .dup 1 :: zEf 49 (.getfield 211) 3 11 31 179 (0, 0, 0) :: zEk 52 (.iconst 1) 1 w52 :: zE 53 .iadd 1 :: es) σ [vR 11 0] [] = zev cc_X11_fact G 1 krI es σ [vR 11 0] [vI ((σ.1 11 0 31) + w52), vR 11 0] := rfl
theorem t_X11_fact_57 {G : Nat → zH → List zAV → List zAV → Option (zH × Int32)} (es : List zEnt) (σ : zH)  (y0 : zAV) (w57 : Int32) : zev cc_X11_fact G 1 krI (zEk 57 (.iconst 0) 1 w57 :: es) σ [y0] [] = zev cc_X11_fact G 1 krI es σ [y0] [vI w57] := rfl
theorem t_X11_fact_59 {G : Nat → zH → List zAV → List zAV → Option (zH × Int32)} (es : List zEnt) (σ : zH)    : zev cc_X11_fact G 1 krI (zE 59 (.aload_n 0) 1 :: es) σ [vR 11 0] [] = zev cc_X11_fact G 1 krI es σ [vR 11 0] [vR 11 0] := rfl
theorem t_X11_fact_63 {G : Nat → zH → List zAV → List zAV → Option (zH × Int32)} (es : List zEnt) (σ : zH)  (y0 : zAV) (w63 : Int32) : zev cc_X11_fact G 1 krI (zEk 63 (.iconst 1) 1 w63 :: es) σ [y0] [] = zev cc_X11_fact G 1 krI es σ [y0] [vI w63] := rfl
noncomputable def d_X11_fact (σ : zH)  : Option (zH × Int32) :=
  (d_X11_blanks σ).bind fun σ1 =>
  (d_X11_stood σ1 25).bind fun p2 =>
  if p2.2 = 0 then
    (d_X11_sign p2.1).bind fun p3 =>
    if p3.2 = (91 : Int32) then
      (d_X11_opens p3.1 (12 : Int32)).bind fun σ5 =>
      zlet (uI σ5 11 0 31 ((σ5.1 11 0 31) + (1 : Int32))) fun σ6 =>
      some (σ6, (0 : Int32))
    else
      (d_X11_compared p3.1).bind fun σ4 =>
      some (σ4, (1 : Int32))
  else
    (d_X11_opens p2.1 (9 : Int32)).bind fun σ7 =>
    zlet (uI σ7 11 0 31 ((σ7.1 11 0 31) + (3 : Int32))) fun σ8 =>
    some (σ8, (0 : Int32))
theorem e_X11_fact (σ : zH)  : d_X11_fact σ = zin cc_X11_fact (fun t => none) 1 krI b_X11_fact 0 σ [vR 11 0] [] := by
  unfold d_X11_fact
  refine Eq.symm ((zin_b (es := q_X11_fact_0) rfl).trans ?_)
  refine (t_X11_fact_0 _ _).trans ?_
  refine (x_callV rfl rfl rfl rfl).trans ((cl_X11_fact_X11_blanks _ _ _).trans ((gr_X11_blanks _ _).trans (pbd fun _ => ?_)))
  refine (t_X11_fact_4 _ _).trans ?_
  refine (x_callV rfl rfl rfl rfl).trans ((cl_X11_fact_X11_stood _ _ _).trans ((gr_X11_stood _ _ _).trans (pbd fun _ => ?_)))
  refine x_if.trans (pif_eq ?_ ?_)
  · refine (zrun_b (es := q_X11_fact_32) rfl rfl).trans ?_
    refine (t_X11_fact_32 _ _).trans ?_
    refine (x_callV rfl rfl rfl rfl).trans ((cl_X11_fact_X11_sign _ _ _).trans ((gr_X11_sign _ _).trans (pbd fun _ => ?_)))
    refine (t_X11_fact_36 _ _ _ _).trans ?_
    refine x_icmp.trans (pif_ne ?_ ?_)
    · refine (zrun_b (es := q_X11_fact_59) rfl rfl).trans ?_
      refine (t_X11_fact_59 _ _).trans ?_
      refine (x_callV rfl rfl rfl rfl).trans ((cl_X11_fact_X11_compared _ _ _).trans ((gr_X11_compared _ _).trans (pbd fun _ => ?_)))
      refine (t_X11_fact_63 _ _ _ _).trans ?_
      exact x_zret.trans (tv_l (by decide +kernel))
    · refine (t_X11_fact_41 _ _ _).trans ?_
      refine (x_callV rfl rfl rfl rfl).trans ((cl_X11_fact_X11_opens _ _ _).trans ((gr_X11_opens _ _ _).trans (pbd fun _ => ?_)))
      refine (t_X11_fact_47 _ _ _).trans ?_
      refine x_pf0.trans (plt fun _ => ?_)
      refine (t_X11_fact_57 _ _ _ _).trans ?_
      exact x_zret.trans (tv_l (by decide +kernel))
  · refine (t_X11_fact_14 _ _ _).trans ?_
    refine (x_callV rfl rfl rfl rfl).trans ((cl_X11_fact_X11_opens _ _ _).trans ((gr_X11_opens _ _ _).trans (pbd fun _ => ?_)))
    refine (t_X11_fact_20 _ _ _).trans ?_
    refine x_pf0.trans (plt fun _ => ?_)
    refine (t_X11_fact_30 _ _ _ _).trans ?_
    exact x_zret.trans (tv_l (by decide +kernel))
noncomputable def g_X11_fact {ρ : Type} (σ : zH) (av : List zAV) (q : zH → zAV → Option ρ) : Option ρ := match av with
  | [.inr (.inr (.inl (11, 0)))] => (d_X11_fact σ).bind fun p => q p.1 (vI p.2)
  | _ => none
theorem gr_X11_fact {ρ : Type} (σ : zH)  (q : zH → zAV → Option ρ) : g_X11_fact σ [vR 11 0] q = (d_X11_fact σ).bind fun p => q p.1 (vI p.2) := rfl
theorem c_X11_fact {ρ : Type} {X : zX} (hX : zHX X) {σ : zH} {av : List zAV} {q : zH → zAV → Option ρ} {r : ρ} (h : g_X11_fact σ av q = some r) (hv : ∀ a ∈ av, zval X a) : zcon X 152 σ av q r := by
  unfold g_X11_fact at h
  split at h
  · exact zcon_I (n := 152) (ml := 1) (rc := 1) (st := 0) (kd := 11) (np := 0) (by decide +kernel) (by decide) ⟨_, _, rfl, rfl⟩ (Nat.le_of_ble_eq_true rfl) hv h (fun y h1 => (zin_ok (hy_X11_fact hX) bk_X11_fact (fun t f hf => by
      cases hf) ((e_X11_fact _).symm.trans h1)))
  · cases h
/-! SleepWavesModel.test()V -/
def q_X11_test_5 : List zEnt := zEk 5 (.iconst 1) 1 1 :: zE 6 (.istore_n 1) 1 :: zEk 7 (.iconst 1) 1 1 :: zE 8 (.istore_n 2) 1 :: [zE 9 .nop 0]
def q_X11_test_2 : List zEnt := zEf 2 (.putfield 278) 3 11 38 186 (0, 0, 0) :: q_X11_test_5
def q_X11_test_0 : List zEnt := zE 0 (.aload_n 0) 1 :: zEk 1 (.iconst 0) 1 0 :: q_X11_test_2
def q_X11_test_32 : List zEnt := zEa 32 (.goto 4) 3 36 :: []
def q_X11_test_31 : List zEnt := zEk 31 (.iconst 1) 1 1 :: q_X11_test_32
def q_X11_test_28 : List zEnt := zEa 28 (.ifCond .ne 7) 3 35 :: q_X11_test_31
def q_X11_test_25 : List zEnt := zEc 25 (.invokevirtual 295) 3 152 1 134 0 :: q_X11_test_28
def q_X11_test_24 : List zEnt := zE 24 (.aload_n 0) 1 :: q_X11_test_25
def q_X11_test_21 : List zEnt := zEa 21 (.ifCond .eq 19) 3 40 :: q_X11_test_24
def q_X11_test_20 : List zEnt := zE 20 (.iload_n 1) 1 :: q_X11_test_21
def q_X11_test_17 : List zEnt := zEa 17 (.ifCond .ne 185) 3 202 :: q_X11_test_20
def q_X11_test_13 : List zEnt := zE 13 (.aload_n 0) 1 :: zEf 14 (.getfield 208) 3 11 32 180 (0, 0, 0) :: q_X11_test_17
def q_X11_test_10 : List zEnt := zEa 10 (.ifCond .eq 192) 3 202 :: q_X11_test_13
def q_X11_test_9 : List zEnt := zE 9 (.iload_n 2) 1 :: q_X11_test_10
def q_X11_test_35 : List zEnt := zEk 35 (.iconst 0) 1 0 :: [zE 36 .nop 0]
def q_X11_test_37 : List zEnt := zEa 37 (.goto (-28)) 3 9 :: []
def q_X11_test_36 : List zEnt := zE 36 (.istore_n 1) 1 :: q_X11_test_37
def q_X11_test_79 : List zEnt := zEa 79 (.ifCond .eq 52) 3 131 :: [zE 82 .nop 0]
def q_X11_test_77 : List zEnt := zE 77 (.iload 4) 2 :: q_X11_test_79
def q_X11_test_74 : List zEnt := zEa 74 (.ifCond .ne 8) 3 82 :: q_X11_test_77
def q_X11_test_73 : List zEnt := zE 73 (.iload_n 3) 1 :: q_X11_test_74
def q_X11_test_70 : List zEnt := zEc 70 (.invokevirtual 298) 3 151 2 143 1 :: q_X11_test_73
def q_X11_test_65 : List zEnt := zE 65 (.istore 4) 2 :: zE 67 (.aload_n 0) 1 :: zEk 68 (.bipush 10) 2 10 :: q_X11_test_70
def q_X11_test_62 : List zEnt := zEc 62 (.invokevirtual 233) 3 141 2 122 0 :: q_X11_test_65
def q_X11_test_57 : List zEnt := zE 57 (.istore_n 3) 1 :: zE 58 (.aload_n 0) 1 :: (59, (.ldc_w 303), 3, (1, 35, 0, 0), (0, 0, 0), 0, 0, []) :: q_X11_test_62
def q_X11_test_54 : List zEnt := zEc 54 (.invokevirtual 233) 3 141 2 122 0 :: q_X11_test_57
def q_X11_test_50 : List zEnt := zE 50 (.aload_n 0) 1 :: (51, (.ldc_w 301), 3, (1, 34, 0, 0), (0, 0, 0), 0, 0, []) :: q_X11_test_54
def q_X11_test_47 : List zEnt := zEc 47 (.invokevirtual 230) 3 139 1 119 1 :: q_X11_test_50
def q_X11_test_46 : List zEnt := zE 46 (.aload_n 0) 1 :: q_X11_test_47
def q_X11_test_43 : List zEnt := zEc 43 (.invokevirtual 298) 3 151 2 143 1 :: q_X11_test_46
def q_X11_test_40 : List zEnt := zE 40 (.aload_n 0) 1 :: zEk 41 (.bipush 9) 2 9 :: q_X11_test_43
def q_X11_test_90 : List zEnt := zEc 90 (.invokevirtual 298) 3 151 2 143 1 :: [zE 93 .nop 0]
def q_X11_test_87 : List zEnt := zE 87 (.aload_n 0) 1 :: zEk 88 (.bipush 11) 2 11 :: q_X11_test_90
def q_X11_test_84 : List zEnt := zEa 84 (.ifCond .eq 9) 3 93 :: q_X11_test_87
def q_X11_test_82 : List zEnt := zE 82 (.iload 4) 2 :: q_X11_test_84
def q_X11_test_100 : List zEnt := zEa 100 (.goto 5) 3 105 :: []
def q_X11_test_98 : List zEnt := zEk 98 (.bipush 10) 2 10 :: q_X11_test_100
def q_X11_test_95 : List zEnt := zEa 95 (.ifCond .eq 8) 3 103 :: q_X11_test_98
def q_X11_test_93 : List zEnt := zE 93 (.aload_n 0) 1 :: zE 94 (.iload_n 3) 1 :: q_X11_test_95
def q_X11_test_103 : List zEnt := zEk 103 (.bipush 11) 2 11 :: [zE 105 .nop 0]
def q_X11_test_118 : List zEnt := zEa 118 (.goto 4) 3 122 :: []
def q_X11_test_117 : List zEnt := zEk 117 (.iconst 3) 1 3 :: q_X11_test_118
def q_X11_test_114 : List zEnt := zEa 114 (.ifCond .eq 7) 3 121 :: q_X11_test_117
def q_X11_test_108 : List zEnt := zE 108 (.aload_n 0) 1 :: zE 109 .dup 1 :: zEf 110 (.getfield 211) 3 11 31 179 (0, 0, 0) :: zE 113 (.iload_n 3) 1 :: q_X11_test_114
def q_X11_test_105 : List zEnt := zEc 105 (.invokevirtual 289) 3 150 2 135 1 :: q_X11_test_108
def q_X11_test_121 : List zEnt := zEk 121 (.iconst 2) 1 2 :: [zE 122 .nop 0]
def q_X11_test_128 : List zEnt := zEa 128 (.goto 71) 3 199 :: []
def q_X11_test_126 : List zEnt := zEk 126 (.iconst 1) 1 1 :: zE 127 (.istore_n 1) 1 :: q_X11_test_128
def q_X11_test_123 : List zEnt := zEf 123 (.putfield 211) 3 11 31 179 (0, 0, 0) :: q_X11_test_126
def q_X11_test_122 : List zEnt := zE 122 .iadd 1 :: q_X11_test_123
def q_X11_test_161 : List zEnt := zEc 161 (.invokevirtual 246) 3 137 3 123 1 :: [zE 164 .nop 0]
def q_X11_test_155 : List zEnt := zE 155 (.aload_n 0) 1 :: zEk 156 (.iconst 0) 1 0 :: zE 157 (.aload_n 0) 1 :: zEf 158 (.getfield 211) 3 11 31 179 (0, 0, 0) :: q_X11_test_161
def q_X11_test_152 : List zEnt := zEa 152 (.if_icmp .eq 12) 3 164 :: q_X11_test_155
def q_X11_test_150 : List zEnt := zEk 150 (.bipush 93) 2 93 :: q_X11_test_152
def q_X11_test_147 : List zEnt := zEc 147 (.invokevirtual 214) 3 138 1 120 0 :: q_X11_test_150
def q_X11_test_146 : List zEnt := zE 146 (.aload_n 0) 1 :: q_X11_test_147
def q_X11_test_143 : List zEnt := zEa 143 (.if_icmp .ne 54) 3 197 :: q_X11_test_146
def q_X11_test_141 : List zEnt := zEk 141 (.bipush 12) 2 12 :: q_X11_test_143
def q_X11_test_138 : List zEnt := zEc 138 (.invokevirtual 284) 3 149 1 144 0 :: q_X11_test_141
def q_X11_test_137 : List zEnt := zE 137 (.aload_n 0) 1 :: q_X11_test_138
def q_X11_test_134 : List zEnt := zEc 134 (.invokevirtual 298) 3 151 2 143 1 :: q_X11_test_137
def q_X11_test_131 : List zEnt := zE 131 (.aload_n 0) 1 :: zEk 132 (.bipush 11) 2 11 :: q_X11_test_134
def q_X11_test_194 : List zEnt := zEa 194 (.goto 5) 3 199 :: []
def q_X11_test_191 : List zEnt := zEf 191 (.putfield 281) 3 11 36 184 (0, 0, 0) :: q_X11_test_194
def q_X11_test_184 : List zEnt := zE 184 (.aload_n 0) 1 :: zE 185 .dup 1 :: zEf 186 (.getfield 281) 3 11 36 184 (0, 0, 0) :: zEk 189 (.iconst 1) 1 1 :: zE 190 .isub 1 :: q_X11_test_191
def q_X11_test_181 : List zEnt := zEf 181 (.putfield 278) 3 11 38 186 (0, 0, 0) :: q_X11_test_184
def q_X11_test_174 : List zEnt := zE 174 (.aload_n 0) 1 :: zE 175 .dup 1 :: zEf 176 (.getfield 278) 3 11 38 186 (0, 0, 0) :: zEk 179 (.iconst 1) 1 1 :: zE 180 .isub 1 :: q_X11_test_181
def q_X11_test_171 : List zEnt := zEf 171 (.putfield 211) 3 11 31 179 (0, 0, 0) :: q_X11_test_174
def q_X11_test_164 : List zEnt := zE 164 (.aload_n 0) 1 :: zE 165 .dup 1 :: zEf 166 (.getfield 211) 3 11 31 179 (0, 0, 0) :: zEk 169 (.iconst 1) 1 1 :: zE 170 .iadd 1 :: q_X11_test_171
def q_X11_test_199 : List zEnt := zEa 199 (.goto (-190)) 3 9 :: []
def q_X11_test_197 : List zEnt := zEk 197 (.iconst 0) 1 0 :: zE 198 (.istore_n 2) 1 :: q_X11_test_199
def q_X11_test_202 : List zEnt := zE 202 .return_ 1 :: []
def b_X11_test : List (Nat × List zEnt) := [(0, q_X11_test_0), (9, q_X11_test_9), (35, q_X11_test_35), (36, q_X11_test_36), (40, q_X11_test_40), (82, q_X11_test_82), (93, q_X11_test_93), (103, q_X11_test_103), (105, q_X11_test_105), (121, q_X11_test_121), (122, q_X11_test_122), (131, q_X11_test_131), (164, q_X11_test_164), (197, q_X11_test_197), (199, q_X11_test_199), (202, q_X11_test_202)]
theorem bk_X11_test : zchB 153 b_X11_test = true := by decide +kernel
noncomputable def cc_X11_test {ρ : Type} : Nat → zH → List zAV → (zH → zAV → Option ρ) → Option ρ := fun n σ av q => if n = 152 then g_X11_fact σ av q else if n = 151 then g_X11_answers σ av q else if n = 139 then g_X11_blanks σ av q else if n = 141 then g_X11_stood σ av q else if n = 150 then g_X11_opens σ av q else if n = 149 then g_X11_top σ av q else if n = 138 then g_X11_sign σ av q else if n = 137 then g_X11_fails σ av q else none
theorem cs_X11_test {ρ : Type} {X : zX} (hX : zHX X) : zCS X (cc_X11_test (ρ := ρ)) := by
  intro n σ av q r h hv
  unfold cc_X11_test at h
  by_cases e_X11_fact : n = 152
  · rw [if_pos e_X11_fact] at h
    subst e_X11_fact
    exact c_X11_fact hX h hv
  rw [if_neg e_X11_fact] at h
  by_cases e_X11_answers : n = 151
  · rw [if_pos e_X11_answers] at h
    subst e_X11_answers
    exact c_X11_answers hX h hv
  rw [if_neg e_X11_answers] at h
  by_cases e_X11_blanks : n = 139
  · rw [if_pos e_X11_blanks] at h
    subst e_X11_blanks
    exact c_X11_blanks hX h hv
  rw [if_neg e_X11_blanks] at h
  by_cases e_X11_stood : n = 141
  · rw [if_pos e_X11_stood] at h
    subst e_X11_stood
    exact c_X11_stood hX h hv
  rw [if_neg e_X11_stood] at h
  by_cases e_X11_opens : n = 150
  · rw [if_pos e_X11_opens] at h
    subst e_X11_opens
    exact c_X11_opens hX h hv
  rw [if_neg e_X11_opens] at h
  by_cases e_X11_top : n = 149
  · rw [if_pos e_X11_top] at h
    subst e_X11_top
    exact c_X11_top hX h hv
  rw [if_neg e_X11_top] at h
  by_cases e_X11_sign : n = 138
  · rw [if_pos e_X11_sign] at h
    subst e_X11_sign
    exact c_X11_sign hX h hv
  rw [if_neg e_X11_sign] at h
  by_cases e_X11_fails : n = 137
  · rw [if_pos e_X11_fails] at h
    subst e_X11_fails
    exact c_X11_fails hX h hv
  rw [if_neg e_X11_fails] at h
  cases h
theorem cl_X11_test_X11_fact {ρ : Type} (σ : zH) (av : List zAV) (q : zH → zAV → Option ρ) : cc_X11_test 152 σ av q = g_X11_fact σ av q := rfl
theorem cl_X11_test_X11_answers {ρ : Type} (σ : zH) (av : List zAV) (q : zH → zAV → Option ρ) : cc_X11_test 151 σ av q = g_X11_answers σ av q := rfl
theorem cl_X11_test_X11_blanks {ρ : Type} (σ : zH) (av : List zAV) (q : zH → zAV → Option ρ) : cc_X11_test 139 σ av q = g_X11_blanks σ av q := rfl
theorem cl_X11_test_X11_stood {ρ : Type} (σ : zH) (av : List zAV) (q : zH → zAV → Option ρ) : cc_X11_test 141 σ av q = g_X11_stood σ av q := rfl
theorem cl_X11_test_X11_opens {ρ : Type} (σ : zH) (av : List zAV) (q : zH → zAV → Option ρ) : cc_X11_test 150 σ av q = g_X11_opens σ av q := rfl
theorem cl_X11_test_X11_top {ρ : Type} (σ : zH) (av : List zAV) (q : zH → zAV → Option ρ) : cc_X11_test 149 σ av q = g_X11_top σ av q := rfl
theorem cl_X11_test_X11_sign {ρ : Type} (σ : zH) (av : List zAV) (q : zH → zAV → Option ρ) : cc_X11_test 138 σ av q = g_X11_sign σ av q := rfl
theorem cl_X11_test_X11_fails {ρ : Type} (σ : zH) (av : List zAV) (q : zH → zAV → Option ρ) : cc_X11_test 137 σ av q = g_X11_fails σ av q := rfl
theorem hy_X11_test {ρ : Type} {X : zX} (hX : zHX X) : zHY X 153 (cc_X11_test (ρ := ρ)) := zHX.hY hX (cs_X11_test hX) (zmok_all 153 (by decide))
def gl_X11_test_9 {ρ : Type} (f : zH → Int32 → Int32 → Option ρ) (σ : zH) (L st : List zAV) : Option ρ := match L, st with
  | [.inr (.inr (.inl (11, 0))), .inl x1, .inl x2, _, _], [] => f σ x1 x2
  | _, _ => none
def gl_X11_test_36 {ρ : Type} (f : zH → Int32 → Int32 → Option ρ) (σ : zH) (L st : List zAV) : Option ρ := match L, st with
  | [.inr (.inr (.inl (11, 0))), _, .inl x2, _, _], [.inl xs0] => f σ x2 xs0
  | _, _ => none
def gl_X11_test_82 {ρ : Type} (f : zH → Int32 → Int32 → Int32 → Option ρ) (σ : zH) (L st : List zAV) : Option ρ := match L, st with
  | [.inr (.inr (.inl (11, 0))), _, .inl x2, .inl x3, .inl x4], [] => f σ x2 x3 x4
  | _, _ => none
def gl_X11_test_93 {ρ : Type} (f : zH → Int32 → Int32 → Option ρ) (σ : zH) (L st : List zAV) : Option ρ := match L, st with
  | [.inr (.inr (.inl (11, 0))), _, .inl x2, .inl x3, _], [] => f σ x2 x3
  | _, _ => none
def gl_X11_test_105 {ρ : Type} (f : zH → Int32 → Int32 → Int32 → Option ρ) (σ : zH) (L st : List zAV) : Option ρ := match L, st with
  | [.inr (.inr (.inl (11, 0))), _, .inl x2, .inl x3, _], [.inl xs1, .inr (.inr (.inl (11, 0)))] => f σ x2 x3 xs1
  | _, _ => none
def gl_X11_test_122 {ρ : Type} (f : zH → Int32 → Int32 → Int32 → Option ρ) (σ : zH) (L st : List zAV) : Option ρ := match L, st with
  | [.inr (.inr (.inl (11, 0))), _, .inl x2, _, _], [.inl xs2, .inl xs1, .inr (.inr (.inl (11, 0)))] => f σ x2 xs1 xs2
  | _, _ => none
def gl_X11_test_164 {ρ : Type} (f : zH → Int32 → Int32 → Option ρ) (σ : zH) (L st : List zAV) : Option ρ := match L, st with
  | [.inr (.inr (.inl (11, 0))), .inl x1, .inl x2, _, _], [] => f σ x1 x2
  | _, _ => none
theorem glr_X11_test_9 {ρ : Type} (f : zH → Int32 → Int32 → Option ρ) (σ : zH) (x1 : Int32) (x2 : Int32) (y3 : zAV) (y4 : zAV) : gl_X11_test_9 f σ [vR 11 0, vI x1, vI x2, y3, y4] [] = f σ x1 x2 := rfl
theorem glr_X11_test_36 {ρ : Type} (f : zH → Int32 → Int32 → Option ρ) (σ : zH) (x2 : Int32) (xs0 : Int32) (y1 : zAV) (y3 : zAV) (y4 : zAV) : gl_X11_test_36 f σ [vR 11 0, y1, vI x2, y3, y4] [vI xs0] = f σ x2 xs0 := rfl
theorem glr_X11_test_82 {ρ : Type} (f : zH → Int32 → Int32 → Int32 → Option ρ) (σ : zH) (x2 : Int32) (x3 : Int32) (x4 : Int32) (y1 : zAV) : gl_X11_test_82 f σ [vR 11 0, y1, vI x2, vI x3, vI x4] [] = f σ x2 x3 x4 := rfl
theorem glr_X11_test_93 {ρ : Type} (f : zH → Int32 → Int32 → Option ρ) (σ : zH) (x2 : Int32) (x3 : Int32) (y1 : zAV) (y4 : zAV) : gl_X11_test_93 f σ [vR 11 0, y1, vI x2, vI x3, y4] [] = f σ x2 x3 := rfl
theorem glr_X11_test_105 {ρ : Type} (f : zH → Int32 → Int32 → Int32 → Option ρ) (σ : zH) (x2 : Int32) (x3 : Int32) (xs1 : Int32) (y1 : zAV) (y4 : zAV) : gl_X11_test_105 f σ [vR 11 0, y1, vI x2, vI x3, y4] [vI xs1, vR 11 0] = f σ x2 x3 xs1 := rfl
theorem glr_X11_test_122 {ρ : Type} (f : zH → Int32 → Int32 → Int32 → Option ρ) (σ : zH) (x2 : Int32) (xs1 : Int32) (xs2 : Int32) (y1 : zAV) (y3 : zAV) (y4 : zAV) : gl_X11_test_122 f σ [vR 11 0, y1, vI x2, y3, y4] [vI xs2, vI xs1, vR 11 0] = f σ x2 xs1 xs2 := rfl
theorem glr_X11_test_164 {ρ : Type} (f : zH → Int32 → Int32 → Option ρ) (σ : zH) (x1 : Int32) (x2 : Int32) (y3 : zAV) (y4 : zAV) : gl_X11_test_164 f σ [vR 11 0, vI x1, vI x2, y3, y4] [] = f σ x1 x2 := rfl
theorem t_X11_test_0 {G : Nat → zH → List zAV → List zAV → Option zH} (es : List zEnt) (σ : zH)  (y1 : zAV) (y2 : zAV) (y3 : zAV) (y4 : zAV) (w1 : Int32) : zev cc_X11_test G 9 krV (zE 0 (.aload_n 0) 1 :: zEk 1 (.iconst 0) 1 w1 :: es) σ [vR 11 0, y1, y2, y3, y4] [] = zev cc_X11_test G 9 krV es σ [vR 11 0, y1, y2, y3, y4] [vI w1, vR 11 0] := rfl
theorem t_X11_test_5 {G : Nat → zH → List zAV → List zAV → Option zH} (es : List zEnt) (σ : zH)  (y1 : zAV) (y2 : zAV) (y3 : zAV) (y4 : zAV) (w5 : Int32) (w7 : Int32) : zev cc_X11_test G 9 krV (zEk 5 (.iconst 1) 1 w5 :: zE 6 (.istore_n 1) 1 :: zEk 7 (.iconst 1) 1 w7 :: zE 8 (.istore_n 2) 1 :: es) σ [vR 11 0, y1, y2, y3, y4] [] = zev cc_X11_test G 9 krV es σ [vR 11 0, vI w5, vI w7, y3, y4] [] := rfl
theorem t_X11_test_9 {G : Nat → zH → List zAV → List zAV → Option zH} (es : List zEnt) (σ : zH) (x1 : Int32) (x2 : Int32) (y3 : zAV) (y4 : zAV)  : zev cc_X11_test G 9 krV (zE 9 (.iload_n 2) 1 :: es) σ [vR 11 0, vI x1, vI x2, y3, y4] [] = zev cc_X11_test G 9 krV es σ [vR 11 0, vI x1, vI x2, y3, y4] [vI x2] := rfl
theorem t_X11_test_13 {G : Nat → zH → List zAV → List zAV → Option zH} (es : List zEnt) (σ : zH) (x1 : Int32) (x2 : Int32) (y3 : zAV) (y4 : zAV)  : zev cc_X11_test G 9 krV (zE 13 (.aload_n 0) 1 :: zEf 14 (.getfield 208) 3 11 32 180 (0, 0, 0) :: es) σ [vR 11 0, vI x1, vI x2, y3, y4] [] = zev cc_X11_test G 9 krV es σ [vR 11 0, vI x1, vI x2, y3, y4] [vI (σ.1 11 0 32)] := rfl
theorem t_X11_test_20 {G : Nat → zH → List zAV → List zAV → Option zH} (es : List zEnt) (σ : zH) (x1 : Int32) (x2 : Int32) (y3 : zAV) (y4 : zAV)  : zev cc_X11_test G 9 krV (zE 20 (.iload_n 1) 1 :: es) σ [vR 11 0, vI x1, vI x2, y3, y4] [] = zev cc_X11_test G 9 krV es σ [vR 11 0, vI x1, vI x2, y3, y4] [vI x1] := rfl
theorem t_X11_test_24 {G : Nat → zH → List zAV → List zAV → Option zH} (es : List zEnt) (σ : zH) (x2 : Int32) (y1 : zAV) (y3 : zAV) (y4 : zAV)  : zev cc_X11_test G 9 krV (zE 24 (.aload_n 0) 1 :: es) σ [vR 11 0, y1, vI x2, y3, y4] [] = zev cc_X11_test G 9 krV es σ [vR 11 0, y1, vI x2, y3, y4] [vR 11 0] := rfl
theorem t_X11_test_31 {G : Nat → zH → List zAV → List zAV → Option zH} (es : List zEnt) (σ : zH) (x2 : Int32) (y1 : zAV) (y3 : zAV) (y4 : zAV) (w31 : Int32) : zev cc_X11_test G 9 krV (zEk 31 (.iconst 1) 1 w31 :: es) σ [vR 11 0, y1, vI x2, y3, y4] [] = zev cc_X11_test G 9 krV es σ [vR 11 0, y1, vI x2, y3, y4] [vI w31] := rfl
theorem t_X11_test_35 {G : Nat → zH → List zAV → List zAV → Option zH} (es : List zEnt) (σ : zH) (x2 : Int32) (y1 : zAV) (y3 : zAV) (y4 : zAV) (w35 : Int32) : zev cc_X11_test G 9 krV (zEk 35 (.iconst 0) 1 w35 :: es) σ [vR 11 0, y1, vI x2, y3, y4] [] = zev cc_X11_test G 9 krV es σ [vR 11 0, y1, vI x2, y3, y4] [vI w35] := rfl
theorem t_X11_test_36 {G : Nat → zH → List zAV → List zAV → Option zH} (es : List zEnt) (σ : zH) (x2 : Int32) (xs0 : Int32) (y1 : zAV) (y3 : zAV) (y4 : zAV)  : zev cc_X11_test G 9 krV (zE 36 (.istore_n 1) 1 :: es) σ [vR 11 0, y1, vI x2, y3, y4] [vI xs0] = zev cc_X11_test G 9 krV es σ [vR 11 0, vI xs0, vI x2, y3, y4] [] := rfl
theorem t_X11_test_40 {G : Nat → zH → List zAV → List zAV → Option zH} (es : List zEnt) (σ : zH) (x1 : Int32) (x2 : Int32) (y3 : zAV) (y4 : zAV) (w41 : Int32) : zev cc_X11_test G 9 krV (zE 40 (.aload_n 0) 1 :: zEk 41 (.bipush 9) 2 w41 :: es) σ [vR 11 0, vI x1, vI x2, y3, y4] [] = zev cc_X11_test G 9 krV es σ [vR 11 0, vI x1, vI x2, y3, y4] [vI w41, vR 11 0] := rfl
theorem t_X11_test_46 {G : Nat → zH → List zAV → List zAV → Option zH} (es : List zEnt) (σ : zH) (x1 : Int32) (x2 : Int32) (y3 : zAV) (y4 : zAV)  : zev cc_X11_test G 9 krV (zE 46 (.aload_n 0) 1 :: es) σ [vR 11 0, vI x1, vI x2, y3, y4] [] = zev cc_X11_test G 9 krV es σ [vR 11 0, vI x1, vI x2, y3, y4] [vR 11 0] := rfl
theorem t_X11_test_50 {G : Nat → zH → List zAV → List zAV → Option zH} (es : List zEnt) (σ : zH) (x1 : Int32) (x2 : Int32) (y3 : zAV) (y4 : zAV)  : zev cc_X11_test G 9 krV (zE 50 (.aload_n 0) 1 :: (51, (.ldc_w 301), 3, (1, 34, 0, 0), (0, 0, 0), 0, 0, []) :: es) σ [vR 11 0, vI x1, vI x2, y3, y4] [] = zev cc_X11_test G 9 krV es σ [vR 11 0, vI x1, vI x2, y3, y4] [vR 200 34, vR 11 0] := rfl
theorem t_X11_test_57 {G : Nat → zH → List zAV → List zAV → Option zH} (es : List zEnt) (σ : zH) (x1 : Int32) (x2 : Int32) (xs0 : Int32) (y3 : zAV) (y4 : zAV)  : zev cc_X11_test G 9 krV (zE 57 (.istore_n 3) 1 :: zE 58 (.aload_n 0) 1 :: (59, (.ldc_w 303), 3, (1, 35, 0, 0), (0, 0, 0), 0, 0, []) :: es) σ [vR 11 0, vI x1, vI x2, y3, y4] [vI xs0] = zev cc_X11_test G 9 krV es σ [vR 11 0, vI x1, vI x2, vI xs0, y4] [vR 200 35, vR 11 0] := rfl
theorem t_X11_test_65 {G : Nat → zH → List zAV → List zAV → Option zH} (es : List zEnt) (σ : zH) (x1 : Int32) (x2 : Int32) (x3 : Int32) (xs0 : Int32) (y4 : zAV) (w68 : Int32) : zev cc_X11_test G 9 krV (zE 65 (.istore 4) 2 :: zE 67 (.aload_n 0) 1 :: zEk 68 (.bipush 10) 2 w68 :: es) σ [vR 11 0, vI x1, vI x2, vI x3, y4] [vI xs0] = zev cc_X11_test G 9 krV es σ [vR 11 0, vI x1, vI x2, vI x3, vI xs0] [vI w68, vR 11 0] := rfl
theorem t_X11_test_73 {G : Nat → zH → List zAV → List zAV → Option zH} (es : List zEnt) (σ : zH) (x1 : Int32) (x2 : Int32) (x3 : Int32) (x4 : Int32)   : zev cc_X11_test G 9 krV (zE 73 (.iload_n 3) 1 :: es) σ [vR 11 0, vI x1, vI x2, vI x3, vI x4] [] = zev cc_X11_test G 9 krV es σ [vR 11 0, vI x1, vI x2, vI x3, vI x4] [vI x3] := rfl
theorem t_X11_test_77 {G : Nat → zH → List zAV → List zAV → Option zH} (es : List zEnt) (σ : zH) (x1 : Int32) (x2 : Int32) (x3 : Int32) (x4 : Int32)   : zev cc_X11_test G 9 krV (zE 77 (.iload 4) 2 :: es) σ [vR 11 0, vI x1, vI x2, vI x3, vI x4] [] = zev cc_X11_test G 9 krV es σ [vR 11 0, vI x1, vI x2, vI x3, vI x4] [vI x4] := rfl
theorem t_X11_test_82 {G : Nat → zH → List zAV → List zAV → Option zH} (es : List zEnt) (σ : zH) (x2 : Int32) (x3 : Int32) (x4 : Int32) (y1 : zAV)  : zev cc_X11_test G 9 krV (zE 82 (.iload 4) 2 :: es) σ [vR 11 0, y1, vI x2, vI x3, vI x4] [] = zev cc_X11_test G 9 krV es σ [vR 11 0, y1, vI x2, vI x3, vI x4] [vI x4] := rfl
theorem t_X11_test_87 {G : Nat → zH → List zAV → List zAV → Option zH} (es : List zEnt) (σ : zH) (x2 : Int32) (x3 : Int32) (y1 : zAV) (y4 : zAV) (w88 : Int32) : zev cc_X11_test G 9 krV (zE 87 (.aload_n 0) 1 :: zEk 88 (.bipush 11) 2 w88 :: es) σ [vR 11 0, y1, vI x2, vI x3, y4] [] = zev cc_X11_test G 9 krV es σ [vR 11 0, y1, vI x2, vI x3, y4] [vI w88, vR 11 0] := rfl
theorem t_X11_test_93 {G : Nat → zH → List zAV → List zAV → Option zH} (es : List zEnt) (σ : zH) (x2 : Int32) (x3 : Int32) (y1 : zAV) (y4 : zAV)  : zev cc_X11_test G 9 krV (zE 93 (.aload_n 0) 1 :: zE 94 (.iload_n 3) 1 :: es) σ [vR 11 0, y1, vI x2, vI x3, y4] [] = zev cc_X11_test G 9 krV es σ [vR 11 0, y1, vI x2, vI x3, y4] [vI x3, vR 11 0] := rfl
theorem t_X11_test_98 {G : Nat → zH → List zAV → List zAV → Option zH} (es : List zEnt) (σ : zH) (x2 : Int32) (x3 : Int32) (y1 : zAV) (y4 : zAV) (w98 : Int32) : zev cc_X11_test G 9 krV (zEk 98 (.bipush 10) 2 w98 :: es) σ [vR 11 0, y1, vI x2, vI x3, y4] [vR 11 0] = zev cc_X11_test G 9 krV es σ [vR 11 0, y1, vI x2, vI x3, y4] [vI w98, vR 11 0] := rfl
theorem t_X11_test_103 {G : Nat → zH → List zAV → List zAV → Option zH} (es : List zEnt) (σ : zH) (x2 : Int32) (x3 : Int32) (y1 : zAV) (y4 : zAV) (w103 : Int32) : zev cc_X11_test G 9 krV (zEk 103 (.bipush 11) 2 w103 :: es) σ [vR 11 0, y1, vI x2, vI x3, y4] [vR 11 0] = zev cc_X11_test G 9 krV es σ [vR 11 0, y1, vI x2, vI x3, y4] [vI w103, vR 11 0] := rfl
theorem t_X11_test_108 {G : Nat → zH → List zAV → List zAV → Option zH} (es : List zEnt) (σ : zH) (x2 : Int32) (x3 : Int32) (y1 : zAV) (y4 : zAV)  : zev cc_X11_test G 9 krV (zE 108 (.aload_n 0) 1 :: zE 109 .dup 1 :: zEf 110 (.getfield 211) 3 11 31 179 (0, 0, 0) :: zE 113 (.iload_n 3) 1 :: es) σ [vR 11 0, y1, vI x2, vI x3, y4] [] = zev cc_X11_test G 9 krV es σ [vR 11 0, y1, vI x2, vI x3, y4] [vI x3, vI (σ.1 11 0 31), vR 11 0] := rfl
theorem t_X11_test_117 {G : Nat → zH → List zAV → List zAV → Option zH} (es : List zEnt) (σ : zH) (x2 : Int32) (xs1 : Int32) (y1 : zAV) (y3 : zAV) (y4 : zAV) (w117 : Int32) : zev cc_X11_test G 9 krV (zEk 117 (.iconst 3) 1 w117 :: es) σ [vR 11 0, y1, vI x2, y3, y4] [vI xs1, vR 11 0] = zev cc_X11_test G 9 krV es σ [vR 11 0, y1, vI x2, y3, y4] [vI w117, vI xs1, vR 11 0] := rfl
theorem t_X11_test_121 {G : Nat → zH → List zAV → List zAV → Option zH} (es : List zEnt) (σ : zH) (x2 : Int32) (xs1 : Int32) (y1 : zAV) (y3 : zAV) (y4 : zAV) (w121 : Int32) : zev cc_X11_test G 9 krV (zEk 121 (.iconst 2) 1 w121 :: es) σ [vR 11 0, y1, vI x2, y3, y4] [vI xs1, vR 11 0] = zev cc_X11_test G 9 krV es σ [vR 11 0, y1, vI x2, y3, y4] [vI w121, vI xs1, vR 11 0] := rfl
theorem t_X11_test_122 {G : Nat → zH → List zAV → List zAV → Option zH} (es : List zEnt) (σ : zH) (x2 : Int32) (xs1 : Int32) (xs2 : Int32) (y1 : zAV) (y3 : zAV) (y4 : zAV)  : zev cc_X11_test G 9 krV (zE 122 .iadd 1 :: es) σ [vR 11 0, y1, vI x2, y3, y4] [vI xs2, vI xs1, vR 11 0] = zev cc_X11_test G 9 krV es σ [vR 11 0, y1, vI x2, y3, y4] [vI (xs1 + xs2), vR 11 0] := rfl
theorem t_X11_test_126 {G : Nat → zH → List zAV → List zAV → Option zH} (es : List zEnt) (σ : zH) (x2 : Int32) (y1 : zAV) (y3 : zAV) (y4 : zAV) (w126 : Int32) : zev cc_X11_test G 9 krV (zEk 126 (.iconst 1) 1 w126 :: zE 127 (.istore_n 1) 1 :: es) σ [vR 11 0, y1, vI x2, y3, y4] [] = zev cc_X11_test G 9 krV es σ [vR 11 0, vI w126, vI x2, y3, y4] [] := rfl
theorem t_X11_test_131 {G : Nat → zH → List zAV → List zAV → Option zH} (es : List zEnt) (σ : zH) (x1 : Int32) (x2 : Int32) (y3 : zAV) (y4 : zAV) (w132 : Int32) : zev cc_X11_test G 9 krV (zE 131 (.aload_n 0) 1 :: zEk 132 (.bipush 11) 2 w132 :: es) σ [vR 11 0, vI x1, vI x2, y3, y4] [] = zev cc_X11_test G 9 krV es σ [vR 11 0, vI x1, vI x2, y3, y4] [vI w132, vR 11 0] := rfl
theorem t_X11_test_137 {G : Nat → zH → List zAV → List zAV → Option zH} (es : List zEnt) (σ : zH) (x1 : Int32) (x2 : Int32) (y3 : zAV) (y4 : zAV)  : zev cc_X11_test G 9 krV (zE 137 (.aload_n 0) 1 :: es) σ [vR 11 0, vI x1, vI x2, y3, y4] [] = zev cc_X11_test G 9 krV es σ [vR 11 0, vI x1, vI x2, y3, y4] [vR 11 0] := rfl
theorem t_X11_test_141 {G : Nat → zH → List zAV → List zAV → Option zH} (es : List zEnt) (σ : zH) (x1 : Int32) (x2 : Int32) (xs0 : Int32) (y3 : zAV) (y4 : zAV) (w141 : Int32) : zev cc_X11_test G 9 krV (zEk 141 (.bipush 12) 2 w141 :: es) σ [vR 11 0, vI x1, vI x2, y3, y4] [vI xs0] = zev cc_X11_test G 9 krV es σ [vR 11 0, vI x1, vI x2, y3, y4] [vI w141, vI xs0] := rfl
theorem t_X11_test_146 {G : Nat → zH → List zAV → List zAV → Option zH} (es : List zEnt) (σ : zH) (x1 : Int32) (x2 : Int32) (y3 : zAV) (y4 : zAV)  : zev cc_X11_test G 9 krV (zE 146 (.aload_n 0) 1 :: es) σ [vR 11 0, vI x1, vI x2, y3, y4] [] = zev cc_X11_test G 9 krV es σ [vR 11 0, vI x1, vI x2, y3, y4] [vR 11 0] := rfl
theorem t_X11_test_150 {G : Nat → zH → List zAV → List zAV → Option zH} (es : List zEnt) (σ : zH) (x1 : Int32) (x2 : Int32) (xs0 : Int32) (y3 : zAV) (y4 : zAV) (w150 : Int32) : zev cc_X11_test G 9 krV (zEk 150 (.bipush 93) 2 w150 :: es) σ [vR 11 0, vI x1, vI x2, y3, y4] [vI xs0] = zev cc_X11_test G 9 krV es σ [vR 11 0, vI x1, vI x2, y3, y4] [vI w150, vI xs0] := rfl
theorem t_X11_test_155 {G : Nat → zH → List zAV → List zAV → Option zH} (es : List zEnt) (σ : zH) (x1 : Int32) (x2 : Int32) (y3 : zAV) (y4 : zAV) (w156 : Int32) : zev cc_X11_test G 9 krV (zE 155 (.aload_n 0) 1 :: zEk 156 (.iconst 0) 1 w156 :: zE 157 (.aload_n 0) 1 :: zEf 158 (.getfield 211) 3 11 31 179 (0, 0, 0) :: es) σ [vR 11 0, vI x1, vI x2, y3, y4] [] = zev cc_X11_test G 9 krV es σ [vR 11 0, vI x1, vI x2, y3, y4] [vI (σ.1 11 0 31), vI w156, vR 11 0] := rfl
theorem t_X11_test_164 {G : Nat → zH → List zAV → List zAV → Option zH} (es : List zEnt) (σ : zH) (x1 : Int32) (x2 : Int32) (y3 : zAV) (y4 : zAV) (w169 : Int32) : zev cc_X11_test G 9 krV (zE 164 (.aload_n 0) 1 :: zE 165 .dup 1 :: zEf 166 (.getfield 211) 3 11 31 179 (0, 0, 0) :: zEk 169 (.iconst 1) 1 w169 :: zE 170 .iadd 1 :: es) σ [vR 11 0, vI x1, vI x2, y3, y4] [] = zev cc_X11_test G 9 krV es σ [vR 11 0, vI x1, vI x2, y3, y4] [vI ((σ.1 11 0 31) + w169), vR 11 0] := rfl
theorem t_X11_test_174 {G : Nat → zH → List zAV → List zAV → Option zH} (es : List zEnt) (σ : zH) (x1 : Int32) (x2 : Int32) (y3 : zAV) (y4 : zAV) (w179 : Int32) : zev cc_X11_test G 9 krV (zE 174 (.aload_n 0) 1 :: zE 175 .dup 1 :: zEf 176 (.getfield 278) 3 11 38 186 (0, 0, 0) :: zEk 179 (.iconst 1) 1 w179 :: zE 180 .isub 1 :: es) σ [vR 11 0, vI x1, vI x2, y3, y4] [] = zev cc_X11_test G 9 krV es σ [vR 11 0, vI x1, vI x2, y3, y4] [vI ((σ.1 11 0 38) - w179), vR 11 0] := rfl
theorem t_X11_test_184 {G : Nat → zH → List zAV → List zAV → Option zH} (es : List zEnt) (σ : zH) (x1 : Int32) (x2 : Int32) (y3 : zAV) (y4 : zAV) (w189 : Int32) : zev cc_X11_test G 9 krV (zE 184 (.aload_n 0) 1 :: zE 185 .dup 1 :: zEf 186 (.getfield 281) 3 11 36 184 (0, 0, 0) :: zEk 189 (.iconst 1) 1 w189 :: zE 190 .isub 1 :: es) σ [vR 11 0, vI x1, vI x2, y3, y4] [] = zev cc_X11_test G 9 krV es σ [vR 11 0, vI x1, vI x2, y3, y4] [vI ((σ.1 11 0 36) - w189), vR 11 0] := rfl
theorem t_X11_test_197 {G : Nat → zH → List zAV → List zAV → Option zH} (es : List zEnt) (σ : zH) (x1 : Int32) (y2 : zAV) (y3 : zAV) (y4 : zAV) (w197 : Int32) : zev cc_X11_test G 9 krV (zEk 197 (.iconst 0) 1 w197 :: zE 198 (.istore_n 2) 1 :: es) σ [vR 11 0, vI x1, y2, y3, y4] [] = zev cc_X11_test G 9 krV es σ [vR 11 0, vI x1, vI w197, y3, y4] [] := rfl
noncomputable def j_X11_test_36 (c9 : zH → Int32 → Int32 → Option zH) (σ : zH) (x2 : Int32) (xs0 : Int32) : Option zH :=
  c9 σ xs0 x2
theorem e_X11_test_36 (c9 : zH → Int32 → Int32 → Option zH) (σ : zH) (x2 : Int32) (xs0 : Int32) (y1 : zAV) (y3 : zAV) (y4 : zAV) : j_X11_test_36 c9 σ x2 xs0 = zin cc_X11_test (fun t => if t = 9 then some (gl_X11_test_9 c9) else none) 9 krV b_X11_test 36 σ [vR 11 0, y1, vI x2, y3, y4] [vI xs0] := by
  unfold j_X11_test_36
  refine Eq.symm ((zin_b (es := q_X11_test_36) rfl).trans ?_)
  refine (t_X11_test_36 _ _ _ _ _ _ _).trans ?_
  refine x_goto.trans ?_
  exact (zrun_c rfl).trans (glr_X11_test_9 _ _ _ _ _ _)
theorem s_X11_test_36 {X : zX} (hX : zHX X) {c9 : zH → Int32 → Int32 → Option zH} (h9 : ∀ σ L st r, gl_X11_test_9 c9 σ L st = some r → zGW X 153 krV 9 σ L st r) : ∀ σ L st r, gl_X11_test_36 (j_X11_test_36 c9) σ L st = some r → zGW X 153 krV 36 σ L st r := by
  intro σ L st r h
  unfold gl_X11_test_36 at h
  split at h
  · exact zin_ok (hy_X11_test hX) bk_X11_test (fun t f hf => by
    by_cases e9 : t = 9
    · rw [if_pos e9] at hf; subst e9; cases hf; exact h9
    rw [if_neg e9] at hf
    cases hf) ((e_X11_test_36 _ _ _ _ _ _ _).symm.trans h)
  · cases h
noncomputable def j_X11_test_122 (c9 : zH → Int32 → Int32 → Option zH) (σ : zH) (x2 : Int32) (xs1 : Int32) (xs2 : Int32) : Option zH :=
  zlet (uI σ 11 0 31 (xs1 + xs2)) fun σ1 =>
  c9 σ1 (1 : Int32) x2
theorem e_X11_test_122 (c9 : zH → Int32 → Int32 → Option zH) (σ : zH) (x2 : Int32) (xs1 : Int32) (xs2 : Int32) (y1 : zAV) (y3 : zAV) (y4 : zAV) : j_X11_test_122 c9 σ x2 xs1 xs2 = zin cc_X11_test (fun t => if t = 9 then some (gl_X11_test_9 c9) else none) 9 krV b_X11_test 122 σ [vR 11 0, y1, vI x2, y3, y4] [vI xs2, vI xs1, vR 11 0] := by
  unfold j_X11_test_122
  refine Eq.symm ((zin_b (es := q_X11_test_122) rfl).trans ?_)
  refine (t_X11_test_122 _ _ _ _ _ _ _ _).trans ?_
  refine x_pf0.trans (plt fun _ => ?_)
  refine (t_X11_test_126 _ _ _ _ _ _ _).trans ?_
  refine x_goto.trans ?_
  refine (zrun_b (es := q_X11_test_199) rfl rfl).trans ?_
  refine x_goto.trans ?_
  exact (zrun_c rfl).trans (glr_X11_test_9 _ _ _ _ _ _)
theorem s_X11_test_122 {X : zX} (hX : zHX X) {c9 : zH → Int32 → Int32 → Option zH} (h9 : ∀ σ L st r, gl_X11_test_9 c9 σ L st = some r → zGW X 153 krV 9 σ L st r) : ∀ σ L st r, gl_X11_test_122 (j_X11_test_122 c9) σ L st = some r → zGW X 153 krV 122 σ L st r := by
  intro σ L st r h
  unfold gl_X11_test_122 at h
  split at h
  · exact zin_ok (hy_X11_test hX) bk_X11_test (fun t f hf => by
    by_cases e9 : t = 9
    · rw [if_pos e9] at hf; subst e9; cases hf; exact h9
    rw [if_neg e9] at hf
    cases hf) ((e_X11_test_122 _ _ _ _ _ _ _ _).symm.trans h)
  · cases h
noncomputable def j_X11_test_105 (c9 : zH → Int32 → Int32 → Option zH) (σ : zH) (x2 : Int32) (x3 : Int32) (xs1 : Int32) : Option zH :=
  (d_X11_opens σ xs1).bind fun σ1 =>
  if x3 = 0 then
    (j_X11_test_122 c9) σ1 x2 (σ1.1 11 0 31) (2 : Int32)
  else
    (j_X11_test_122 c9) σ1 x2 (σ1.1 11 0 31) (3 : Int32)
theorem e_X11_test_105 (c9 : zH → Int32 → Int32 → Option zH) (σ : zH) (x2 : Int32) (x3 : Int32) (xs1 : Int32) (y1 : zAV) (y4 : zAV) : j_X11_test_105 c9 σ x2 x3 xs1 = zin cc_X11_test (fun t => if t = 122 then some (gl_X11_test_122 (j_X11_test_122 c9)) else none) 9 krV b_X11_test 105 σ [vR 11 0, y1, vI x2, vI x3, y4] [vI xs1, vR 11 0] := by
  unfold j_X11_test_105
  refine Eq.symm ((zin_b (es := q_X11_test_105) rfl).trans ?_)
  refine (x_callV rfl rfl rfl rfl).trans ((cl_X11_test_X11_opens _ _ _).trans ((gr_X11_opens _ _ _).trans (pbd fun _ => ?_)))
  refine (t_X11_test_108 _ _ _ _ _ _).trans ?_
  refine x_if.trans (pif_eq ?_ ?_)
  · refine (zrun_b (es := q_X11_test_121) rfl rfl).trans ?_
    refine (t_X11_test_121 _ _ _ _ _ _ _ _).trans ?_
    refine x_cut.trans ?_
    exact (zrun_c rfl).trans (glr_X11_test_122 _ _ _ _ _ _ _ _)
  · refine (t_X11_test_117 _ _ _ _ _ _ _ _).trans ?_
    refine x_goto.trans ?_
    exact (zrun_c rfl).trans (glr_X11_test_122 _ _ _ _ _ _ _ _)
theorem s_X11_test_105 {X : zX} (hX : zHX X) {c9 : zH → Int32 → Int32 → Option zH} (h9 : ∀ σ L st r, gl_X11_test_9 c9 σ L st = some r → zGW X 153 krV 9 σ L st r) : ∀ σ L st r, gl_X11_test_105 (j_X11_test_105 c9) σ L st = some r → zGW X 153 krV 105 σ L st r := by
  intro σ L st r h
  unfold gl_X11_test_105 at h
  split at h
  · exact zin_ok (hy_X11_test hX) bk_X11_test (fun t f hf => by
    by_cases e122 : t = 122
    · rw [if_pos e122] at hf; subst e122; cases hf; exact (s_X11_test_122 hX h9)
    rw [if_neg e122] at hf
    cases hf) ((e_X11_test_105 _ _ _ _ _ _ _).symm.trans h)
  · cases h
noncomputable def j_X11_test_93 (c9 : zH → Int32 → Int32 → Option zH) (σ : zH) (x2 : Int32) (x3 : Int32) : Option zH :=
  if x3 = 0 then
    (j_X11_test_105 c9) σ x2 x3 (11 : Int32)
  else
    (j_X11_test_105 c9) σ x2 x3 (10 : Int32)
theorem e_X11_test_93 (c9 : zH → Int32 → Int32 → Option zH) (σ : zH) (x2 : Int32) (x3 : Int32) (y1 : zAV) (y4 : zAV) : j_X11_test_93 c9 σ x2 x3 = zin cc_X11_test (fun t => if t = 105 then some (gl_X11_test_105 (j_X11_test_105 c9)) else none) 9 krV b_X11_test 93 σ [vR 11 0, y1, vI x2, vI x3, y4] [] := by
  unfold j_X11_test_93
  refine Eq.symm ((zin_b (es := q_X11_test_93) rfl).trans ?_)
  refine (t_X11_test_93 _ _ _ _ _ _).trans ?_
  refine x_if.trans (pif_eq ?_ ?_)
  · refine (zrun_b (es := q_X11_test_103) rfl rfl).trans ?_
    refine (t_X11_test_103 _ _ _ _ _ _ _).trans ?_
    refine x_cut.trans ?_
    exact (zrun_c rfl).trans (glr_X11_test_105 _ _ _ _ _ _ _)
  · refine (t_X11_test_98 _ _ _ _ _ _ _).trans ?_
    refine x_goto.trans ?_
    exact (zrun_c rfl).trans (glr_X11_test_105 _ _ _ _ _ _ _)
theorem s_X11_test_93 {X : zX} (hX : zHX X) {c9 : zH → Int32 → Int32 → Option zH} (h9 : ∀ σ L st r, gl_X11_test_9 c9 σ L st = some r → zGW X 153 krV 9 σ L st r) : ∀ σ L st r, gl_X11_test_93 (j_X11_test_93 c9) σ L st = some r → zGW X 153 krV 93 σ L st r := by
  intro σ L st r h
  unfold gl_X11_test_93 at h
  split at h
  · exact zin_ok (hy_X11_test hX) bk_X11_test (fun t f hf => by
    by_cases e105 : t = 105
    · rw [if_pos e105] at hf; subst e105; cases hf; exact (s_X11_test_105 hX h9)
    rw [if_neg e105] at hf
    cases hf) ((e_X11_test_93 _ _ _ _ _ _).symm.trans h)
  · cases h
noncomputable def j_X11_test_82 (c9 : zH → Int32 → Int32 → Option zH) (σ : zH) (x2 : Int32) (x3 : Int32) (x4 : Int32) : Option zH :=
  if x4 = 0 then
    (j_X11_test_93 c9) σ x2 x3
  else
    (d_X11_answers σ (11 : Int32)).bind fun σ1 =>
    (j_X11_test_93 c9) σ1 x2 x3
theorem e_X11_test_82 (c9 : zH → Int32 → Int32 → Option zH) (σ : zH) (x2 : Int32) (x3 : Int32) (x4 : Int32) (y1 : zAV) : j_X11_test_82 c9 σ x2 x3 x4 = zin cc_X11_test (fun t => if t = 93 then some (gl_X11_test_93 (j_X11_test_93 c9)) else none) 9 krV b_X11_test 82 σ [vR 11 0, y1, vI x2, vI x3, vI x4] [] := by
  unfold j_X11_test_82
  refine Eq.symm ((zin_b (es := q_X11_test_82) rfl).trans ?_)
  refine (t_X11_test_82 _ _ _ _ _ _).trans ?_
  refine x_if.trans (pif_eq ?_ ?_)
  · exact (zrun_c rfl).trans (glr_X11_test_93 _ _ _ _ _ _)
  · refine (t_X11_test_87 _ _ _ _ _ _ _).trans ?_
    refine (x_callV rfl rfl rfl rfl).trans ((cl_X11_test_X11_answers _ _ _).trans ((gr_X11_answers _ _ _).trans (pbd fun _ => ?_)))
    refine x_cut.trans ?_
    exact (zrun_c rfl).trans (glr_X11_test_93 _ _ _ _ _ _)
theorem s_X11_test_82 {X : zX} (hX : zHX X) {c9 : zH → Int32 → Int32 → Option zH} (h9 : ∀ σ L st r, gl_X11_test_9 c9 σ L st = some r → zGW X 153 krV 9 σ L st r) : ∀ σ L st r, gl_X11_test_82 (j_X11_test_82 c9) σ L st = some r → zGW X 153 krV 82 σ L st r := by
  intro σ L st r h
  unfold gl_X11_test_82 at h
  split at h
  · exact zin_ok (hy_X11_test hX) bk_X11_test (fun t f hf => by
    by_cases e93 : t = 93
    · rw [if_pos e93] at hf; subst e93; cases hf; exact (s_X11_test_93 hX h9)
    rw [if_neg e93] at hf
    cases hf) ((e_X11_test_82 _ _ _ _ _ _).symm.trans h)
  · cases h
noncomputable def j_X11_test_164 (c9 : zH → Int32 → Int32 → Option zH) (σ : zH) (x1 : Int32) (x2 : Int32) : Option zH :=
  zlet (uI σ 11 0 31 ((σ.1 11 0 31) + (1 : Int32))) fun σ1 =>
  zlet (uI σ1 11 0 38 ((σ1.1 11 0 38) - (1 : Int32))) fun σ2 =>
  zlet (uI σ2 11 0 36 ((σ2.1 11 0 36) - (1 : Int32))) fun σ3 =>
  c9 σ3 x1 x2
theorem e_X11_test_164 (c9 : zH → Int32 → Int32 → Option zH) (σ : zH) (x1 : Int32) (x2 : Int32) (y3 : zAV) (y4 : zAV) : j_X11_test_164 c9 σ x1 x2 = zin cc_X11_test (fun t => if t = 9 then some (gl_X11_test_9 c9) else none) 9 krV b_X11_test 164 σ [vR 11 0, vI x1, vI x2, y3, y4] [] := by
  unfold j_X11_test_164
  refine Eq.symm ((zin_b (es := q_X11_test_164) rfl).trans ?_)
  refine (t_X11_test_164 _ _ _ _ _ _ _).trans ?_
  refine x_pf0.trans (plt fun _ => ?_)
  refine (t_X11_test_174 _ _ _ _ _ _ _).trans ?_
  refine x_pf0.trans (plt fun _ => ?_)
  refine (t_X11_test_184 _ _ _ _ _ _ _).trans ?_
  refine x_pf0.trans (plt fun _ => ?_)
  refine x_goto.trans ?_
  refine (zrun_b (es := q_X11_test_199) rfl rfl).trans ?_
  refine x_goto.trans ?_
  exact (zrun_c rfl).trans (glr_X11_test_9 _ _ _ _ _ _)
theorem s_X11_test_164 {X : zX} (hX : zHX X) {c9 : zH → Int32 → Int32 → Option zH} (h9 : ∀ σ L st r, gl_X11_test_9 c9 σ L st = some r → zGW X 153 krV 9 σ L st r) : ∀ σ L st r, gl_X11_test_164 (j_X11_test_164 c9) σ L st = some r → zGW X 153 krV 164 σ L st r := by
  intro σ L st r h
  unfold gl_X11_test_164 at h
  split at h
  · exact zin_ok (hy_X11_test hX) bk_X11_test (fun t f hf => by
    by_cases e9 : t = 9
    · rw [if_pos e9] at hf; subst e9; cases hf; exact h9
    rw [if_neg e9] at hf
    cases hf) ((e_X11_test_164 _ _ _ _ _ _).symm.trans h)
  · cases h
noncomputable def k_X11_test_9  : Nat → zH → Int32 → Int32 → Option zH
  | 0, _, _, _ => none
  | n + 1, σ, x1, x2 =>
    if x2 = 0 then
      some σ
    else
      if (σ.1 11 0 32) = 0 then
        if x1 = 0 then
          (d_X11_answers σ (9 : Int32)).bind fun σ1 =>
          (d_X11_blanks σ1).bind fun σ2 =>
          (d_X11_stood σ2 34).bind fun p3 =>
          (d_X11_stood p3.1 35).bind fun p4 =>
          (d_X11_answers p4.1 (10 : Int32)).bind fun σ5 =>
          if p3.2 = 0 then
            if p4.2 = 0 then
              (d_X11_answers σ5 (11 : Int32)).bind fun σ6 =>
              (d_X11_top σ6).bind fun p7 =>
              if p7.2 = (12 : Int32) then
                (d_X11_sign p7.1).bind fun p8 =>
                if p8.2 = (93 : Int32) then
                  (j_X11_test_164 (k_X11_test_9 n)) p8.1 x1 x2
                else
                  (d_X11_fails p8.1 (0 : Int32) (p8.1.1 11 0 31)).bind fun σ9 =>
                  (j_X11_test_164 (k_X11_test_9 n)) σ9 x1 x2
              else
                (k_X11_test_9 n) p7.1 x1 (0 : Int32)
            else
              (j_X11_test_82 (k_X11_test_9 n)) σ5 x2 p3.2 p4.2
          else
            (j_X11_test_82 (k_X11_test_9 n)) σ5 x2 p3.2 p4.2
        else
          (d_X11_fact σ).bind fun p10 =>
          if p10.2 = 0 then
            (j_X11_test_36 (k_X11_test_9 n)) p10.1 x2 (1 : Int32)
          else
            (j_X11_test_36 (k_X11_test_9 n)) p10.1 x2 (0 : Int32)
      else
        some σ
theorem e_X11_test_9  (n : Nat) (σ : zH) (x1 : Int32) (x2 : Int32) (y3 : zAV) (y4 : zAV) : k_X11_test_9 (n + 1) σ x1 x2 = zin cc_X11_test (fun t => if t = 9 then some (gl_X11_test_9 (k_X11_test_9 n)) else if t = 36 then some (gl_X11_test_36 (j_X11_test_36 (k_X11_test_9 n))) else if t = 82 then some (gl_X11_test_82 (j_X11_test_82 (k_X11_test_9 n))) else if t = 164 then some (gl_X11_test_164 (j_X11_test_164 (k_X11_test_9 n))) else none) 9 krV b_X11_test 9 σ [vR 11 0, vI x1, vI x2, y3, y4] [] := by
  rw [k_X11_test_9]
  refine Eq.symm ((zin_b (es := q_X11_test_9) rfl).trans ?_)
  refine (t_X11_test_9 _ _ _ _ _ _).trans ?_
  refine x_if.trans (pif_eq ?_ ?_)
  · refine (zrun_b (es := q_X11_test_202) rfl rfl).trans ?_
    exact x_vret
  · refine (t_X11_test_13 _ _ _ _ _ _).trans ?_
    refine x_if.trans (pif_ne ?_ ?_)
    · refine (zrun_b (es := q_X11_test_202) rfl rfl).trans ?_
      exact x_vret
    · refine (t_X11_test_20 _ _ _ _ _ _).trans ?_
      refine x_if.trans (pif_eq ?_ ?_)
      · refine (zrun_b (es := q_X11_test_40) rfl rfl).trans ?_
        refine (t_X11_test_40 _ _ _ _ _ _ _).trans ?_
        refine (x_callV rfl rfl rfl rfl).trans ((cl_X11_test_X11_answers _ _ _).trans ((gr_X11_answers _ _ _).trans (pbd fun _ => ?_)))
        refine (t_X11_test_46 _ _ _ _ _ _).trans ?_
        refine (x_callV rfl rfl rfl rfl).trans ((cl_X11_test_X11_blanks _ _ _).trans ((gr_X11_blanks _ _).trans (pbd fun _ => ?_)))
        refine (t_X11_test_50 _ _ _ _ _ _).trans ?_
        refine (x_callV rfl rfl rfl rfl).trans ((cl_X11_test_X11_stood _ _ _).trans ((gr_X11_stood _ _ _).trans (pbd fun _ => ?_)))
        refine (t_X11_test_57 _ _ _ _ _ _ _).trans ?_
        refine (x_callV rfl rfl rfl rfl).trans ((cl_X11_test_X11_stood _ _ _).trans ((gr_X11_stood _ _ _).trans (pbd fun _ => ?_)))
        refine (t_X11_test_65 _ _ _ _ _ _ _ _).trans ?_
        refine (x_callV rfl rfl rfl rfl).trans ((cl_X11_test_X11_answers _ _ _).trans ((gr_X11_answers _ _ _).trans (pbd fun _ => ?_)))
        refine (t_X11_test_73 _ _ _ _ _ _).trans ?_
        refine x_if.trans (pif_ne ?_ ?_)
        · exact (zrun_c rfl).trans (glr_X11_test_82 _ _ _ _ _ _)
        · refine (t_X11_test_77 _ _ _ _ _ _).trans ?_
          refine x_if.trans (pif_eq ?_ ?_)
          · refine (zrun_b (es := q_X11_test_131) rfl rfl).trans ?_
            refine (t_X11_test_131 _ _ _ _ _ _ _).trans ?_
            refine (x_callV rfl rfl rfl rfl).trans ((cl_X11_test_X11_answers _ _ _).trans ((gr_X11_answers _ _ _).trans (pbd fun _ => ?_)))
            refine (t_X11_test_137 _ _ _ _ _ _).trans ?_
            refine (x_callV rfl rfl rfl rfl).trans ((cl_X11_test_X11_top _ _ _).trans ((gr_X11_top _ _).trans (pbd fun _ => ?_)))
            refine (t_X11_test_141 _ _ _ _ _ _ _ _).trans ?_
            refine x_icmp.trans (pif_ne ?_ ?_)
            · refine (zrun_b (es := q_X11_test_197) rfl rfl).trans ?_
              refine (t_X11_test_197 _ _ _ _ _ _ _).trans ?_
              refine x_goto.trans ?_
              exact (zrun_c rfl).trans (glr_X11_test_9 _ _ _ _ _ _)
            · refine (t_X11_test_146 _ _ _ _ _ _).trans ?_
              refine (x_callV rfl rfl rfl rfl).trans ((cl_X11_test_X11_sign _ _ _).trans ((gr_X11_sign _ _).trans (pbd fun _ => ?_)))
              refine (t_X11_test_150 _ _ _ _ _ _ _ _).trans ?_
              refine x_icmp.trans (pif_eq ?_ ?_)
              · exact (zrun_c rfl).trans (glr_X11_test_164 _ _ _ _ _ _)
              · refine (t_X11_test_155 _ _ _ _ _ _ _).trans ?_
                refine (x_callV rfl rfl rfl rfl).trans ((cl_X11_test_X11_fails _ _ _).trans ((gr_X11_fails _ _ _ _).trans (pbd fun _ => ?_)))
                refine x_cut.trans ?_
                exact (zrun_c rfl).trans (glr_X11_test_164 _ _ _ _ _ _)
          · refine x_cut.trans ?_
            exact (zrun_c rfl).trans (glr_X11_test_82 _ _ _ _ _ _)
      · refine (t_X11_test_24 _ _ _ _ _ _).trans ?_
        refine (x_callV rfl rfl rfl rfl).trans ((cl_X11_test_X11_fact _ _ _).trans ((gr_X11_fact _ _).trans (pbd fun _ => ?_)))
        refine x_if.trans (pif_ne ?_ ?_)
        · refine (zrun_b (es := q_X11_test_35) rfl rfl).trans ?_
          refine (t_X11_test_35 _ _ _ _ _ _ _).trans ?_
          refine x_cut.trans ?_
          exact (zrun_c rfl).trans (glr_X11_test_36 _ _ _ _ _ _ _)
        · refine (t_X11_test_31 _ _ _ _ _ _ _).trans ?_
          refine x_goto.trans ?_
          exact (zrun_c rfl).trans (glr_X11_test_36 _ _ _ _ _ _ _)
theorem s_X11_test_9 {X : zX} (hX : zHX X)   : ∀ n σ L st r, gl_X11_test_9 (k_X11_test_9 n) σ L st = some r → zGW X 153 krV 9 σ L st r := by
  intro n
  induction n with
  | zero =>
    intro σ L st r h
    unfold gl_X11_test_9 at h
    split at h <;> cases h
  | succ n ih =>
    intro σ L st r h
    unfold gl_X11_test_9 at h
    split at h
    · exact zin_ok (hy_X11_test hX) bk_X11_test (fun t f hf => by
      by_cases e9 : t = 9
      · rw [if_pos e9] at hf; subst e9; cases hf; exact ih
      rw [if_neg e9] at hf
      by_cases e36 : t = 36
      · rw [if_pos e36] at hf; subst e36; cases hf; exact (s_X11_test_36 hX ih)
      rw [if_neg e36] at hf
      by_cases e82 : t = 82
      · rw [if_pos e82] at hf; subst e82; cases hf; exact (s_X11_test_82 hX ih)
      rw [if_neg e82] at hf
      by_cases e164 : t = 164
      · rw [if_pos e164] at hf; subst e164; cases hf; exact (s_X11_test_164 hX ih)
      rw [if_neg e164] at hf
      cases hf) ((e_X11_test_9 _ _ _ _ _ _).symm.trans h)
    · cases h
noncomputable def d_X11_test (σ : zH)  : Option zH :=
  zlet (uI σ 11 0 38 (0 : Int32)) fun σ1 =>
  (k_X11_test_9 zN) σ1 (1 : Int32) (1 : Int32)
theorem e_X11_test (σ : zH)  : d_X11_test σ = zin cc_X11_test (fun t => if t = 9 then some (gl_X11_test_9 (k_X11_test_9 zN)) else none) 9 krV b_X11_test 0 σ [vR 11 0, vU, vU, vU, vU] [] := by
  unfold d_X11_test
  refine Eq.symm ((zin_b (es := q_X11_test_0) rfl).trans ?_)
  refine (t_X11_test_0 _ _ _ _ _ _ _).trans ?_
  refine x_pf0.trans (plt fun _ => ?_)
  refine (t_X11_test_5 _ _ _ _ _ _ _ _).trans ?_
  refine x_cut.trans ?_
  exact (zrun_c rfl).trans (glr_X11_test_9 _ _ _ _ _ _)
noncomputable def g_X11_test {ρ : Type} (σ : zH) (av : List zAV) (q : zH → zAV → Option ρ) : Option ρ := match av with
  | [.inr (.inr (.inl (11, 0)))] => (d_X11_test σ).bind fun σ => q σ vU
  | _ => none
theorem gr_X11_test {ρ : Type} (σ : zH)  (q : zH → zAV → Option ρ) : g_X11_test σ [vR 11 0] q = (d_X11_test σ).bind fun σ => q σ vU := rfl
theorem c_X11_test {ρ : Type} {X : zX} (hX : zHX X) {σ : zH} {av : List zAV} {q : zH → zAV → Option ρ} {r : ρ} (h : g_X11_test σ av q = some r) (hv : ∀ a ∈ av, zval X a) : zcon X 153 σ av q r := by
  unfold g_X11_test at h
  split at h
  · exact zcon_V (n := 153) (ml := 5) (rc := 9) (st := 0) (kd := 11) (np := 0) (by decide +kernel) rfl ⟨_, _, rfl, rfl⟩ (Nat.le_of_ble_eq_true rfl) hv h (fun y h1 => (zin_ok (hy_X11_test hX) bk_X11_test (fun t f hf => by
      by_cases e9 : t = 9
      · rw [if_pos e9] at hf; subst e9; cases hf; exact ((fun σ L st r h => s_X11_test_9 hX  zN σ L st r h))
      rw [if_neg e9] at hf
      cases hf) ((e_X11_test _).symm.trans h1)))
  · cases h
/-! SleepWavesModel.amount(II)I -/
def q_X11_amount_22 : List zEnt := zEa 22 (.goto 4) 3 26 :: []
def q_X11_amount_19 : List zEnt := zEc 19 (.invokevirtual 255) 3 144 2 127 0 :: q_X11_amount_22
def q_X11_amount_16 : List zEnt := zE 16 (.aload_n 0) 1 :: (17, (.ldc 254), 2, (0, 0, 1391, 0), (0, 0, 0), 99999, 0, []) :: q_X11_amount_19
def q_X11_amount_13 : List zEnt := zEa 13 (.ifCond .ne 12) 3 25 :: q_X11_amount_16
def q_X11_amount_4 : List zEnt := zE 4 (.aload_n 0) 1 :: zEf 5 (.getfield 211) 3 11 31 179 (0, 0, 0) :: zE 8 (.istore_n 3) 1 :: zE 9 (.aload_n 0) 1 :: zEf 10 (.getfield 208) 3 11 32 180 (0, 0, 0) :: q_X11_amount_13
def q_X11_amount_1 : List zEnt := zEc 1 (.invokevirtual 230) 3 139 1 119 1 :: q_X11_amount_4
def q_X11_amount_0 : List zEnt := zE 0 (.aload_n 0) 1 :: q_X11_amount_1
def q_X11_amount_25 : List zEnt := zEk 25 (.iconst 0) 1 0 :: [zE 26 .nop 0]
def q_X11_amount_56 : List zEnt := zE 56 .ireturn 1 :: []
def q_X11_amount_54 : List zEnt := zE 54 (.iload 4) 2 :: q_X11_amount_56
def q_X11_amount_51 : List zEnt := zEc 51 (.invokevirtual 246) 3 137 3 123 1 :: q_X11_amount_54
def q_X11_amount_48 : List zEnt := zE 48 (.aload_n 0) 1 :: zEk 49 (.iconst 1) 1 1 :: zE 50 (.iload_n 3) 1 :: q_X11_amount_51
def q_X11_amount_45 : List zEnt := zEa 45 (.ifCond .ne 9) 3 54 :: q_X11_amount_48
def q_X11_amount_42 : List zEnt := zEc 42 (.invokestatic 173) 3 125 3 129 0 :: q_X11_amount_45
def q_X11_amount_35 : List zEnt := zE 35 (.iload 4) 2 :: zE 37 .i2l 1 :: zE 38 (.iload_n 1) 1 :: zE 39 .i2l 1 :: zE 40 (.iload_n 2) 1 :: zE 41 .i2l 1 :: q_X11_amount_42
def q_X11_amount_32 : List zEnt := zEa 32 (.ifCond .ne 22) 3 54 :: q_X11_amount_35
def q_X11_amount_26 : List zEnt := zE 26 (.istore 4) 2 :: zE 28 (.aload_n 0) 1 :: zEf 29 (.getfield 208) 3 11 32 180 (0, 0, 0) :: q_X11_amount_32
def b_X11_amount : List (Nat × List zEnt) := [(0, q_X11_amount_0), (25, q_X11_amount_25), (26, q_X11_amount_26), (54, q_X11_amount_54)]
theorem bk_X11_amount : zchB 154 b_X11_amount = true := by decide +kernel
noncomputable def cc_X11_amount {ρ : Type} : Nat → zH → List zAV → (zH → zAV → Option ρ) → Option ρ := fun n σ av q => if n = 139 then g_X11_blanks σ av q else if n = 144 then g_X11_digits σ av q else if n = 125 then g_X11_in σ av q else if n = 137 then g_X11_fails σ av q else none
theorem cs_X11_amount {ρ : Type} {X : zX} (hX : zHX X) : zCS X (cc_X11_amount (ρ := ρ)) := by
  intro n σ av q r h hv
  unfold cc_X11_amount at h
  by_cases e_X11_blanks : n = 139
  · rw [if_pos e_X11_blanks] at h
    subst e_X11_blanks
    exact c_X11_blanks hX h hv
  rw [if_neg e_X11_blanks] at h
  by_cases e_X11_digits : n = 144
  · rw [if_pos e_X11_digits] at h
    subst e_X11_digits
    exact c_X11_digits hX h hv
  rw [if_neg e_X11_digits] at h
  by_cases e_X11_in : n = 125
  · rw [if_pos e_X11_in] at h
    subst e_X11_in
    exact c_X11_in hX h hv
  rw [if_neg e_X11_in] at h
  by_cases e_X11_fails : n = 137
  · rw [if_pos e_X11_fails] at h
    subst e_X11_fails
    exact c_X11_fails hX h hv
  rw [if_neg e_X11_fails] at h
  cases h
theorem cl_X11_amount_X11_blanks {ρ : Type} (σ : zH) (av : List zAV) (q : zH → zAV → Option ρ) : cc_X11_amount 139 σ av q = g_X11_blanks σ av q := rfl
theorem cl_X11_amount_X11_digits {ρ : Type} (σ : zH) (av : List zAV) (q : zH → zAV → Option ρ) : cc_X11_amount 144 σ av q = g_X11_digits σ av q := rfl
theorem cl_X11_amount_X11_in {ρ : Type} (σ : zH) (av : List zAV) (q : zH → zAV → Option ρ) : cc_X11_amount 125 σ av q = g_X11_in σ av q := rfl
theorem cl_X11_amount_X11_fails {ρ : Type} (σ : zH) (av : List zAV) (q : zH → zAV → Option ρ) : cc_X11_amount 137 σ av q = g_X11_fails σ av q := rfl
theorem hy_X11_amount {ρ : Type} {X : zX} (hX : zHX X) : zHY X 154 (cc_X11_amount (ρ := ρ)) := zHX.hY hX (cs_X11_amount hX) (zmok_all 154 (by decide))
def gl_X11_amount_26 {ρ : Type} (f : zH → Int32 → Int32 → Int32 → Int32 → Option ρ) (σ : zH) (L st : List zAV) : Option ρ := match L, st with
  | [.inr (.inr (.inl (11, 0))), .inl x1, .inl x2, .inl x3, _], [.inl xs0] => f σ x1 x2 x3 xs0
  | _, _ => none
theorem glr_X11_amount_26 {ρ : Type} (f : zH → Int32 → Int32 → Int32 → Int32 → Option ρ) (σ : zH) (x1 : Int32) (x2 : Int32) (x3 : Int32) (xs0 : Int32) (y4 : zAV) : gl_X11_amount_26 f σ [vR 11 0, vI x1, vI x2, vI x3, y4] [vI xs0] = f σ x1 x2 x3 xs0 := rfl
theorem t_X11_amount_0 {G : Nat → zH → List zAV → List zAV → Option (zH × Int32)} (es : List zEnt) (σ : zH) (x1 : Int32) (x2 : Int32) (y3 : zAV) (y4 : zAV)  : zev cc_X11_amount G 0 krI (zE 0 (.aload_n 0) 1 :: es) σ [vR 11 0, vI x1, vI x2, y3, y4] [] = zev cc_X11_amount G 0 krI es σ [vR 11 0, vI x1, vI x2, y3, y4] [vR 11 0] := rfl
theorem t_X11_amount_4 {G : Nat → zH → List zAV → List zAV → Option (zH × Int32)} (es : List zEnt) (σ : zH) (x1 : Int32) (x2 : Int32) (y3 : zAV) (y4 : zAV)  : zev cc_X11_amount G 0 krI (zE 4 (.aload_n 0) 1 :: zEf 5 (.getfield 211) 3 11 31 179 (0, 0, 0) :: zE 8 (.istore_n 3) 1 :: zE 9 (.aload_n 0) 1 :: zEf 10 (.getfield 208) 3 11 32 180 (0, 0, 0) :: es) σ [vR 11 0, vI x1, vI x2, y3, y4] [] = zev cc_X11_amount G 0 krI es σ [vR 11 0, vI x1, vI x2, vI (σ.1 11 0 31), y4] [vI (σ.1 11 0 32)] := rfl
theorem t_X11_amount_16 {G : Nat → zH → List zAV → List zAV → Option (zH × Int32)} (es : List zEnt) (σ : zH) (x1 : Int32) (x2 : Int32) (x3 : Int32) (y4 : zAV) (w17 : Int32) : zev cc_X11_amount G 0 krI (zE 16 (.aload_n 0) 1 :: (17, (.ldc 254), 2, (0, 0, 1391, 0), (0, 0, 0), w17, 0, []) :: es) σ [vR 11 0, vI x1, vI x2, vI x3, y4] [] = zev cc_X11_amount G 0 krI es σ [vR 11 0, vI x1, vI x2, vI x3, y4] [vI w17, vR 11 0] := rfl
theorem t_X11_amount_25 {G : Nat → zH → List zAV → List zAV → Option (zH × Int32)} (es : List zEnt) (σ : zH) (x1 : Int32) (x2 : Int32) (x3 : Int32) (y4 : zAV) (w25 : Int32) : zev cc_X11_amount G 0 krI (zEk 25 (.iconst 0) 1 w25 :: es) σ [vR 11 0, vI x1, vI x2, vI x3, y4] [] = zev cc_X11_amount G 0 krI es σ [vR 11 0, vI x1, vI x2, vI x3, y4] [vI w25] := rfl
theorem t_X11_amount_26 {G : Nat → zH → List zAV → List zAV → Option (zH × Int32)} (es : List zEnt) (σ : zH) (x1 : Int32) (x2 : Int32) (x3 : Int32) (xs0 : Int32) (y4 : zAV)  : zev cc_X11_amount G 0 krI (zE 26 (.istore 4) 2 :: zE 28 (.aload_n 0) 1 :: zEf 29 (.getfield 208) 3 11 32 180 (0, 0, 0) :: es) σ [vR 11 0, vI x1, vI x2, vI x3, y4] [vI xs0] = zev cc_X11_amount G 0 krI es σ [vR 11 0, vI x1, vI x2, vI x3, vI xs0] [vI (σ.1 11 0 32)] := rfl
theorem t_X11_amount_35 {G : Nat → zH → List zAV → List zAV → Option (zH × Int32)} (es : List zEnt) (σ : zH) (x1 : Int32) (x2 : Int32) (x3 : Int32) (x4 : Int32)   : zev cc_X11_amount G 0 krI (zE 35 (.iload 4) 2 :: zE 37 .i2l 1 :: zE 38 (.iload_n 1) 1 :: zE 39 .i2l 1 :: zE 40 (.iload_n 2) 1 :: zE 41 .i2l 1 :: es) σ [vR 11 0, vI x1, vI x2, vI x3, vI x4] [] = zev cc_X11_amount G 0 krI es σ [vR 11 0, vI x1, vI x2, vI x3, vI x4] [vL x2.toInt64, vL x1.toInt64, vL x4.toInt64] := rfl
theorem t_X11_amount_48 {G : Nat → zH → List zAV → List zAV → Option (zH × Int32)} (es : List zEnt) (σ : zH) (x3 : Int32) (x4 : Int32) (y1 : zAV) (y2 : zAV) (w49 : Int32) : zev cc_X11_amount G 0 krI (zE 48 (.aload_n 0) 1 :: zEk 49 (.iconst 1) 1 w49 :: zE 50 (.iload_n 3) 1 :: es) σ [vR 11 0, y1, y2, vI x3, vI x4] [] = zev cc_X11_amount G 0 krI es σ [vR 11 0, y1, y2, vI x3, vI x4] [vI x3, vI w49, vR 11 0] := rfl
theorem t_X11_amount_54 {G : Nat → zH → List zAV → List zAV → Option (zH × Int32)} (es : List zEnt) (σ : zH) (x4 : Int32) (y0 : zAV) (y1 : zAV) (y2 : zAV) (y3 : zAV)  : zev cc_X11_amount G 0 krI (zE 54 (.iload 4) 2 :: es) σ [y0, y1, y2, y3, vI x4] [] = zev cc_X11_amount G 0 krI es σ [y0, y1, y2, y3, vI x4] [vI x4] := rfl
noncomputable def j_X11_amount_26  (σ : zH) (x1 : Int32) (x2 : Int32) (x3 : Int32) (xs0 : Int32) : Option (zH × Int32) :=
  if (σ.1 11 0 32) = 0 then
    (d_X11_in σ xs0.toInt64 x1.toInt64 x2.toInt64).bind fun p1 =>
    if p1.2 = 0 then
      (d_X11_fails p1.1 (1 : Int32) x3).bind fun σ2 =>
      some (σ2, xs0)
    else
      some (p1.1, xs0)
  else
    some (σ, xs0)
theorem e_X11_amount_26  (σ : zH) (x1 : Int32) (x2 : Int32) (x3 : Int32) (xs0 : Int32) (y4 : zAV) : j_X11_amount_26 σ x1 x2 x3 xs0 = zin cc_X11_amount (fun t => none) 0 krI b_X11_amount 26 σ [vR 11 0, vI x1, vI x2, vI x3, y4] [vI xs0] := by
  unfold j_X11_amount_26
  refine Eq.symm ((zin_b (es := q_X11_amount_26) rfl).trans ?_)
  refine (t_X11_amount_26 _ _ _ _ _ _ _).trans ?_
  refine x_if.trans (pif_ne ?_ ?_)
  · refine (zrun_b (es := q_X11_amount_54) rfl rfl).trans ?_
    refine (t_X11_amount_54 _ _ _ _ _ _ _).trans ?_
    exact x_iret
  · refine (t_X11_amount_35 _ _ _ _ _ _).trans ?_
    refine (x_callS rfl rfl rfl rfl).trans ((cl_X11_amount_X11_in _ _ _).trans ((gr_X11_in _ _ _ _ _).trans (pbd fun _ => ?_)))
    refine x_if.trans (pif_ne ?_ ?_)
    · refine (zrun_b (es := q_X11_amount_54) rfl rfl).trans ?_
      refine (t_X11_amount_54 _ _ _ _ _ _ _).trans ?_
      exact x_iret
    · refine (t_X11_amount_48 _ _ _ _ _ _ _).trans ?_
      refine (x_callV rfl rfl rfl rfl).trans ((cl_X11_amount_X11_fails _ _ _).trans ((gr_X11_fails _ _ _ _).trans (pbd fun _ => ?_)))
      refine (t_X11_amount_54 _ _ _ _ _ _ _).trans ?_
      exact x_iret
theorem s_X11_amount_26 {X : zX} (hX : zHX X)   : ∀ σ L st r, gl_X11_amount_26 j_X11_amount_26 σ L st = some r → zGW X 154 krI 26 σ L st r := by
  intro σ L st r h
  unfold gl_X11_amount_26 at h
  split at h
  · exact zin_ok (hy_X11_amount hX) bk_X11_amount (fun t f hf => by
    cases hf) ((e_X11_amount_26 _ _ _ _ _ _).symm.trans h)
  · cases h
noncomputable def d_X11_amount (σ : zH) (xa1 : Int32) (xa2 : Int32) : Option (zH × Int32) :=
  (d_X11_blanks σ).bind fun σ1 =>
  if (σ1.1 11 0 32) = 0 then
    (d_X11_digits σ1 (99999 : Int32)).bind fun p2 =>
    j_X11_amount_26 p2.1 xa1 xa2 (σ1.1 11 0 31) p2.2
  else
    j_X11_amount_26 σ1 xa1 xa2 (σ1.1 11 0 31) (0 : Int32)
theorem e_X11_amount (σ : zH) (xa1 : Int32) (xa2 : Int32) : d_X11_amount σ xa1 xa2 = zin cc_X11_amount (fun t => if t = 26 then some (gl_X11_amount_26 j_X11_amount_26) else none) 0 krI b_X11_amount 0 σ [vR 11 0, vI xa1, vI xa2, vU, vU] [] := by
  unfold d_X11_amount
  refine Eq.symm ((zin_b (es := q_X11_amount_0) rfl).trans ?_)
  refine (t_X11_amount_0 _ _ _ _ _ _).trans ?_
  refine (x_callV rfl rfl rfl rfl).trans ((cl_X11_amount_X11_blanks _ _ _).trans ((gr_X11_blanks _ _).trans (pbd fun _ => ?_)))
  refine (t_X11_amount_4 _ _ _ _ _ _).trans ?_
  refine x_if.trans (pif_ne ?_ ?_)
  · refine (zrun_b (es := q_X11_amount_25) rfl rfl).trans ?_
    refine (t_X11_amount_25 _ _ _ _ _ _ _).trans ?_
    refine x_cut.trans ?_
    exact (zrun_c rfl).trans (glr_X11_amount_26 _ _ _ _ _ _ _)
  · refine (t_X11_amount_16 _ _ _ _ _ _ _).trans ?_
    refine (x_callV rfl rfl rfl rfl).trans ((cl_X11_amount_X11_digits _ _ _).trans ((gr_X11_digits _ _ _).trans (pbd fun _ => ?_)))
    refine x_goto.trans ?_
    exact (zrun_c rfl).trans (glr_X11_amount_26 _ _ _ _ _ _ _)
noncomputable def g_X11_amount {ρ : Type} (σ : zH) (av : List zAV) (q : zH → zAV → Option ρ) : Option ρ := match av with
  | [.inr (.inr (.inl (11, 0))), .inl xa1, .inl xa2] => (d_X11_amount σ xa1 xa2).bind fun p => q p.1 (vI p.2)
  | _ => none
theorem gr_X11_amount {ρ : Type} (σ : zH) (xa1 : Int32) (xa2 : Int32) (q : zH → zAV → Option ρ) : g_X11_amount σ [vR 11 0, vI xa1, vI xa2] q = (d_X11_amount σ xa1 xa2).bind fun p => q p.1 (vI p.2) := rfl
theorem c_X11_amount {ρ : Type} {X : zX} (hX : zHX X) {σ : zH} {av : List zAV} {q : zH → zAV → Option ρ} {r : ρ} (h : g_X11_amount σ av q = some r) (hv : ∀ a ∈ av, zval X a) : zcon X 154 σ av q r := by
  unfold g_X11_amount at h
  split at h
  · exact zcon_I (n := 154) (ml := 5) (rc := 0) (st := 0) (kd := 11) (np := 2) (by decide +kernel) (by decide) ⟨_, _, rfl, rfl⟩ (Nat.le_of_ble_eq_true rfl) hv h (fun y h1 => (zin_ok (hy_X11_amount hX) bk_X11_amount (fun t f hf => by
      by_cases e26 : t = 26
      · rw [if_pos e26] at hf; subst e26; cases hf; exact (s_X11_amount_26 hX)
      rw [if_neg e26] at hf
      cases hf) ((e_X11_amount _ _ _).symm.trans h1)))
  · cases h
/-! SleepWavesModel.barracksPart(I)V -/
def q_X11_barracksPart_62 : List zEnt := zEa 62 (.goto 114) 3 176 :: []
def q_X11_barracksPart_61 : List zEnt := zE 61 .iastore 1 :: q_X11_barracksPart_62
def q_X11_barracksPart_58 : List zEnt := zEc 58 (.invokevirtual 305) 3 154 3 126 0 :: q_X11_barracksPart_61
def q_X11_barracksPart_49 : List zEnt := zE 49 (.aload_n 0) 1 :: zEf 50 (.getfield 52) 3 11 15 163 (2, 56, 0) :: zE 53 (.iload_n 2) 1 :: zE 54 (.aload_n 0) 1 :: zEk 55 (.iconst 0) 1 0 :: zEk 56 (.bipush 100) 2 100 :: q_X11_barracksPart_58
def q_X11_barracksPart_48 : List zEnt := zE 48 .iastore 1 :: q_X11_barracksPart_49
def q_X11_barracksPart_45 : List zEnt := zEc 45 (.invokevirtual 305) 3 154 3 126 0 :: q_X11_barracksPart_48
def q_X11_barracksPart_36 : List zEnt := zE 36 (.aload_n 0) 1 :: zEf 37 (.getfield 49) 3 11 14 162 (2, 55, 0) :: zE 40 (.iload_n 2) 1 :: zE 41 (.aload_n 0) 1 :: zEk 42 (.iconst 0) 1 0 :: zEk 43 (.bipush 11) 2 11 :: q_X11_barracksPart_45
def q_X11_barracksPart_35 : List zEnt := zE 35 .iastore 1 :: q_X11_barracksPart_36
def q_X11_barracksPart_32 : List zEnt := zEc 32 (.invokevirtual 305) 3 154 3 126 0 :: q_X11_barracksPart_35
def q_X11_barracksPart_24 : List zEnt := zE 24 (.aload_n 0) 1 :: zEf 25 (.getfield 46) 3 11 13 161 (2, 54, 0) :: zE 28 (.iload_n 2) 1 :: zE 29 (.aload_n 0) 1 :: zEk 30 (.iconst 0) 1 0 :: zEk 31 (.iconst 3) 1 3 :: q_X11_barracksPart_32
def q_X11_barracksPart_23 : List zEnt := zE 23 .iastore 1 :: q_X11_barracksPart_24
def q_X11_barracksPart_20 : List zEnt := zEc 20 (.invokevirtual 305) 3 154 3 126 0 :: q_X11_barracksPart_23
def q_X11_barracksPart_11 : List zEnt := zE 11 (.aload_n 0) 1 :: zEf 12 (.getfield 43) 3 11 12 160 (2, 53, 0) :: zE 15 (.iload_n 2) 1 :: zE 16 (.aload_n 0) 1 :: zEk 17 (.iconst 1) 1 1 :: zEk 18 (.bipush 99) 2 99 :: q_X11_barracksPart_20
def q_X11_barracksPart_8 : List zEnt := zEa 8 (.ifCond .ne 57) 3 65 :: q_X11_barracksPart_11
def q_X11_barracksPart_6 : List zEnt := zE 6 (.istore_n 2) 1 :: zE 7 (.iload_n 1) 1 :: q_X11_barracksPart_8
def q_X11_barracksPart_5 : List zEnt := zE 5 .iaload 1 :: q_X11_barracksPart_6
def q_X11_barracksPart_0 : List zEnt := zE 0 (.aload_n 0) 1 :: zEf 1 (.getfield 40) 3 11 11 159 (2, 52, 0) :: zE 4 (.iload_n 1) 1 :: q_X11_barracksPart_5
def q_X11_barracksPart_96 : List zEnt := zEa 96 (.goto 80) 3 176 :: []
def q_X11_barracksPart_95 : List zEnt := zE 95 .iastore 1 :: q_X11_barracksPart_96
def q_X11_barracksPart_92 : List zEnt := zEc 92 (.invokevirtual 305) 3 154 3 126 0 :: q_X11_barracksPart_95
def q_X11_barracksPart_83 : List zEnt := zE 83 (.aload_n 0) 1 :: zEf 84 (.getfield 58) 3 11 17 165 (2, 58, 0) :: zE 87 (.iload_n 2) 1 :: zE 88 (.aload_n 0) 1 :: zEk 89 (.iconst 1) 1 1 :: zEk 90 (.bipush 9) 2 9 :: q_X11_barracksPart_92
def q_X11_barracksPart_82 : List zEnt := zE 82 .iastore 1 :: q_X11_barracksPart_83
def q_X11_barracksPart_79 : List zEnt := zEc 79 (.invokevirtual 305) 3 154 3 126 0 :: q_X11_barracksPart_82
def q_X11_barracksPart_70 : List zEnt := zE 70 (.aload_n 0) 1 :: zEf 71 (.getfield 55) 3 11 16 164 (2, 57, 0) :: zE 74 (.iload_n 2) 1 :: zE 75 (.aload_n 0) 1 :: zEk 76 (.iconst 0) 1 0 :: zEk 77 (.bipush 95) 2 95 :: q_X11_barracksPart_79
def q_X11_barracksPart_67 : List zEnt := zEa 67 (.if_icmp .ne 32) 3 99 :: q_X11_barracksPart_70
def q_X11_barracksPart_65 : List zEnt := zE 65 (.iload_n 1) 1 :: zEk 66 (.iconst 1) 1 1 :: q_X11_barracksPart_67
def q_X11_barracksPart_154 : List zEnt := zEa 154 (.goto 22) 3 176 :: []
def q_X11_barracksPart_153 : List zEnt := zE 153 .iastore 1 :: q_X11_barracksPart_154
def q_X11_barracksPart_150 : List zEnt := zEc 150 (.invokevirtual 305) 3 154 3 126 0 :: q_X11_barracksPart_153
def q_X11_barracksPart_148 : List zEnt := zEk 148 (.bipush 95) 2 95 :: q_X11_barracksPart_150
def q_X11_barracksPart_147 : List zEnt := zE 147 .iaload 1 :: q_X11_barracksPart_148
def q_X11_barracksPart_136 : List zEnt := zE 136 (.aload_n 0) 1 :: zEf 137 (.getfield 67) 3 11 20 168 (2, 61, 0) :: zE 140 (.iload_n 2) 1 :: zE 141 (.aload_n 0) 1 :: zE 142 (.aload_n 0) 1 :: zEf 143 (.getfield 64) 3 11 19 167 (2, 60, 0) :: zE 146 (.iload_n 2) 1 :: q_X11_barracksPart_147
def q_X11_barracksPart_135 : List zEnt := zE 135 .iastore 1 :: q_X11_barracksPart_136
def q_X11_barracksPart_132 : List zEnt := zEc 132 (.invokevirtual 305) 3 154 3 126 0 :: q_X11_barracksPart_135
def q_X11_barracksPart_123 : List zEnt := zE 123 (.aload_n 0) 1 :: zEf 124 (.getfield 64) 3 11 19 167 (2, 60, 0) :: zE 127 (.iload_n 2) 1 :: zE 128 (.aload_n 0) 1 :: zEk 129 (.iconst 0) 1 0 :: zEk 130 (.bipush 95) 2 95 :: q_X11_barracksPart_132
def q_X11_barracksPart_122 : List zEnt := zE 122 .iastore 1 :: q_X11_barracksPart_123
def q_X11_barracksPart_119 : List zEnt := zEc 119 (.invokevirtual 305) 3 154 3 126 0 :: q_X11_barracksPart_122
def q_X11_barracksPart_117 : List zEnt := zEk 117 (.iconst 1) 1 1 :: zE 118 .isub 1 :: q_X11_barracksPart_119
def q_X11_barracksPart_116 : List zEnt := zE 116 .iaload 1 :: q_X11_barracksPart_117
def q_X11_barracksPart_104 : List zEnt := zE 104 (.aload_n 0) 1 :: zEf 105 (.getfield 61) 3 11 18 166 (2, 59, 0) :: zE 108 (.iload_n 2) 1 :: zE 109 (.aload_n 0) 1 :: zEk 110 (.iconst 0) 1 0 :: zE 111 (.aload_n 0) 1 :: zEf 112 (.getfield 40) 3 11 11 159 (2, 52, 0) :: zEk 115 (.iconst 0) 1 0 :: q_X11_barracksPart_116
def q_X11_barracksPart_101 : List zEnt := zEa 101 (.if_icmp .ne 56) 3 157 :: q_X11_barracksPart_104
def q_X11_barracksPart_99 : List zEnt := zE 99 (.iload_n 1) 1 :: zEk 100 (.iconst 2) 1 2 :: q_X11_barracksPart_101
def q_X11_barracksPart_173 : List zEnt := zEf 173 (.putfield 309) 3 11 40 188 (0, 1, 0) :: [zE 176 .nop 0]
def q_X11_barracksPart_171 : List zEnt := zE 171 (.aload_n 0) 1 :: zEk 172 (.iconst 1) 1 1 :: q_X11_barracksPart_173
def q_X11_barracksPart_170 : List zEnt := zE 170 .iastore 1 :: q_X11_barracksPart_171
def q_X11_barracksPart_167 : List zEnt := zEc 167 (.invokevirtual 305) 3 154 3 126 0 :: q_X11_barracksPart_170
def q_X11_barracksPart_157 : List zEnt := zE 157 (.aload_n 0) 1 :: zEf 158 (.getfield 40) 3 11 11 159 (2, 52, 0) :: zEk 161 (.iconst 3) 1 3 :: zE 162 (.aload_n 0) 1 :: zEk 163 (.iconst 0) 1 0 :: zEk 164 (.sipush 1200) 3 1200 :: q_X11_barracksPart_167
def q_X11_barracksPart_189 : List zEnt := zEa 189 (.goto 4) 3 193 :: []
def q_X11_barracksPart_188 : List zEnt := zEk 188 (.iconst 1) 1 1 :: q_X11_barracksPart_189
def q_X11_barracksPart_185 : List zEnt := zEa 185 (.if_icmp .ge 7) 3 192 :: q_X11_barracksPart_188
def q_X11_barracksPart_183 : List zEnt := zE 183 (.iload_n 1) 1 :: zEk 184 (.iconst 3) 1 3 :: q_X11_barracksPart_185
def q_X11_barracksPart_182 : List zEnt := zE 182 .iaload 1 :: q_X11_barracksPart_183
def q_X11_barracksPart_176 : List zEnt := zE 176 (.aload_n 0) 1 :: zEf 177 (.getfield 40) 3 11 11 159 (2, 52, 0) :: zE 180 (.iload_n 1) 1 :: zE 181 .dup2 1 :: q_X11_barracksPart_182
def q_X11_barracksPart_192 : List zEnt := zEk 192 (.iconst 0) 1 0 :: [zE 193 .nop 0]
def q_X11_barracksPart_195 : List zEnt := zE 195 .return_ 1 :: []
def q_X11_barracksPart_194 : List zEnt := zE 194 .iastore 1 :: q_X11_barracksPart_195
def q_X11_barracksPart_193 : List zEnt := zE 193 .iadd 1 :: q_X11_barracksPart_194
def b_X11_barracksPart : List (Nat × List zEnt) := [(0, q_X11_barracksPart_0), (65, q_X11_barracksPart_65), (99, q_X11_barracksPart_99), (157, q_X11_barracksPart_157), (176, q_X11_barracksPart_176), (192, q_X11_barracksPart_192), (193, q_X11_barracksPart_193)]
theorem bk_X11_barracksPart : zchB 155 b_X11_barracksPart = true := by decide +kernel
noncomputable def cc_X11_barracksPart {ρ : Type} : Nat → zH → List zAV → (zH → zAV → Option ρ) → Option ρ := fun n σ av q => if n = 154 then g_X11_amount σ av q else none
theorem cs_X11_barracksPart {ρ : Type} {X : zX} (hX : zHX X) : zCS X (cc_X11_barracksPart (ρ := ρ)) := by
  intro n σ av q r h hv
  unfold cc_X11_barracksPart at h
  by_cases e_X11_amount : n = 154
  · rw [if_pos e_X11_amount] at h
    subst e_X11_amount
    exact c_X11_amount hX h hv
  rw [if_neg e_X11_amount] at h
  cases h
theorem cl_X11_barracksPart_X11_amount {ρ : Type} (σ : zH) (av : List zAV) (q : zH → zAV → Option ρ) : cc_X11_barracksPart 154 σ av q = g_X11_amount σ av q := rfl
theorem hy_X11_barracksPart {ρ : Type} {X : zX} (hX : zHX X) : zHY X 155 (cc_X11_barracksPart (ρ := ρ)) := zHX.hY hX (cs_X11_barracksPart hX) (zmok_all 155 (by decide))
def gl_X11_barracksPart_176 {ρ : Type} (f : zH → Int32 → Option ρ) (σ : zH) (L st : List zAV) : Option ρ := match L, st with
  | [.inr (.inr (.inl (11, 0))), .inl x1, _], [] => f σ x1
  | _, _ => none
def gl_X11_barracksPart_193 {ρ : Type} (f : zH → Int32 → Int32 → Int32 → Option ρ) (σ : zH) (L st : List zAV) : Option ρ := match L, st with
  | [_, _, _], [.inl xs3, .inl xs2, .inl xs1, .inr (.inr (.inl (52, 0)))] => f σ xs1 xs2 xs3
  | _, _ => none
theorem glr_X11_barracksPart_176 {ρ : Type} (f : zH → Int32 → Option ρ) (σ : zH) (x1 : Int32) (y2 : zAV) : gl_X11_barracksPart_176 f σ [vR 11 0, vI x1, y2] [] = f σ x1 := rfl
theorem glr_X11_barracksPart_193 {ρ : Type} (f : zH → Int32 → Int32 → Int32 → Option ρ) (σ : zH) (xs1 : Int32) (xs2 : Int32) (xs3 : Int32) (y0 : zAV) (y1 : zAV) (y2 : zAV) : gl_X11_barracksPart_193 f σ [y0, y1, y2] [vI xs3, vI xs2, vI xs1, vR 52 0] = f σ xs1 xs2 xs3 := rfl
theorem t_X11_barracksPart_0 {G : Nat → zH → List zAV → List zAV → Option zH} (es : List zEnt) (σ : zH) (x1 : Int32) (y2 : zAV)  : zev cc_X11_barracksPart G 9 krV (zE 0 (.aload_n 0) 1 :: zEf 1 (.getfield 40) 3 11 11 159 (2, 52, 0) :: zE 4 (.iload_n 1) 1 :: es) σ [vR 11 0, vI x1, y2] [] = zev cc_X11_barracksPart G 9 krV es σ [vR 11 0, vI x1, y2] [vI x1, vR 52 0] := rfl
theorem t_X11_barracksPart_6 {G : Nat → zH → List zAV → List zAV → Option zH} (es : List zEnt) (σ : zH) (x1 : Int32) (xs0 : Int32) (y2 : zAV)  : zev cc_X11_barracksPart G 9 krV (zE 6 (.istore_n 2) 1 :: zE 7 (.iload_n 1) 1 :: es) σ [vR 11 0, vI x1, y2] [vI xs0] = zev cc_X11_barracksPart G 9 krV es σ [vR 11 0, vI x1, vI xs0] [vI x1] := rfl
theorem t_X11_barracksPart_11 {G : Nat → zH → List zAV → List zAV → Option zH} (es : List zEnt) (σ : zH) (x1 : Int32) (x2 : Int32)  (w17 : Int32) (w18 : Int32) : zev cc_X11_barracksPart G 9 krV (zE 11 (.aload_n 0) 1 :: zEf 12 (.getfield 43) 3 11 12 160 (2, 53, 0) :: zE 15 (.iload_n 2) 1 :: zE 16 (.aload_n 0) 1 :: zEk 17 (.iconst 1) 1 w17 :: zEk 18 (.bipush 99) 2 w18 :: es) σ [vR 11 0, vI x1, vI x2] [] = zev cc_X11_barracksPart G 9 krV es σ [vR 11 0, vI x1, vI x2] [vI w18, vI w17, vR 11 0, vI x2, vR 53 0] := rfl
theorem t_X11_barracksPart_24 {G : Nat → zH → List zAV → List zAV → Option zH} (es : List zEnt) (σ : zH) (x1 : Int32) (x2 : Int32)  (w30 : Int32) (w31 : Int32) : zev cc_X11_barracksPart G 9 krV (zE 24 (.aload_n 0) 1 :: zEf 25 (.getfield 46) 3 11 13 161 (2, 54, 0) :: zE 28 (.iload_n 2) 1 :: zE 29 (.aload_n 0) 1 :: zEk 30 (.iconst 0) 1 w30 :: zEk 31 (.iconst 3) 1 w31 :: es) σ [vR 11 0, vI x1, vI x2] [] = zev cc_X11_barracksPart G 9 krV es σ [vR 11 0, vI x1, vI x2] [vI w31, vI w30, vR 11 0, vI x2, vR 54 0] := rfl
theorem t_X11_barracksPart_36 {G : Nat → zH → List zAV → List zAV → Option zH} (es : List zEnt) (σ : zH) (x1 : Int32) (x2 : Int32)  (w42 : Int32) (w43 : Int32) : zev cc_X11_barracksPart G 9 krV (zE 36 (.aload_n 0) 1 :: zEf 37 (.getfield 49) 3 11 14 162 (2, 55, 0) :: zE 40 (.iload_n 2) 1 :: zE 41 (.aload_n 0) 1 :: zEk 42 (.iconst 0) 1 w42 :: zEk 43 (.bipush 11) 2 w43 :: es) σ [vR 11 0, vI x1, vI x2] [] = zev cc_X11_barracksPart G 9 krV es σ [vR 11 0, vI x1, vI x2] [vI w43, vI w42, vR 11 0, vI x2, vR 55 0] := rfl
theorem t_X11_barracksPart_49 {G : Nat → zH → List zAV → List zAV → Option zH} (es : List zEnt) (σ : zH) (x1 : Int32) (x2 : Int32)  (w55 : Int32) (w56 : Int32) : zev cc_X11_barracksPart G 9 krV (zE 49 (.aload_n 0) 1 :: zEf 50 (.getfield 52) 3 11 15 163 (2, 56, 0) :: zE 53 (.iload_n 2) 1 :: zE 54 (.aload_n 0) 1 :: zEk 55 (.iconst 0) 1 w55 :: zEk 56 (.bipush 100) 2 w56 :: es) σ [vR 11 0, vI x1, vI x2] [] = zev cc_X11_barracksPart G 9 krV es σ [vR 11 0, vI x1, vI x2] [vI w56, vI w55, vR 11 0, vI x2, vR 56 0] := rfl
theorem t_X11_barracksPart_65 {G : Nat → zH → List zAV → List zAV → Option zH} (es : List zEnt) (σ : zH) (x1 : Int32) (x2 : Int32)  (w66 : Int32) : zev cc_X11_barracksPart G 9 krV (zE 65 (.iload_n 1) 1 :: zEk 66 (.iconst 1) 1 w66 :: es) σ [vR 11 0, vI x1, vI x2] [] = zev cc_X11_barracksPart G 9 krV es σ [vR 11 0, vI x1, vI x2] [vI w66, vI x1] := rfl
theorem t_X11_barracksPart_70 {G : Nat → zH → List zAV → List zAV → Option zH} (es : List zEnt) (σ : zH) (x1 : Int32) (x2 : Int32)  (w76 : Int32) (w77 : Int32) : zev cc_X11_barracksPart G 9 krV (zE 70 (.aload_n 0) 1 :: zEf 71 (.getfield 55) 3 11 16 164 (2, 57, 0) :: zE 74 (.iload_n 2) 1 :: zE 75 (.aload_n 0) 1 :: zEk 76 (.iconst 0) 1 w76 :: zEk 77 (.bipush 95) 2 w77 :: es) σ [vR 11 0, vI x1, vI x2] [] = zev cc_X11_barracksPart G 9 krV es σ [vR 11 0, vI x1, vI x2] [vI w77, vI w76, vR 11 0, vI x2, vR 57 0] := rfl
theorem t_X11_barracksPart_83 {G : Nat → zH → List zAV → List zAV → Option zH} (es : List zEnt) (σ : zH) (x1 : Int32) (x2 : Int32)  (w89 : Int32) (w90 : Int32) : zev cc_X11_barracksPart G 9 krV (zE 83 (.aload_n 0) 1 :: zEf 84 (.getfield 58) 3 11 17 165 (2, 58, 0) :: zE 87 (.iload_n 2) 1 :: zE 88 (.aload_n 0) 1 :: zEk 89 (.iconst 1) 1 w89 :: zEk 90 (.bipush 9) 2 w90 :: es) σ [vR 11 0, vI x1, vI x2] [] = zev cc_X11_barracksPart G 9 krV es σ [vR 11 0, vI x1, vI x2] [vI w90, vI w89, vR 11 0, vI x2, vR 58 0] := rfl
theorem t_X11_barracksPart_99 {G : Nat → zH → List zAV → List zAV → Option zH} (es : List zEnt) (σ : zH) (x1 : Int32) (x2 : Int32)  (w100 : Int32) : zev cc_X11_barracksPart G 9 krV (zE 99 (.iload_n 1) 1 :: zEk 100 (.iconst 2) 1 w100 :: es) σ [vR 11 0, vI x1, vI x2] [] = zev cc_X11_barracksPart G 9 krV es σ [vR 11 0, vI x1, vI x2] [vI w100, vI x1] := rfl
theorem t_X11_barracksPart_104 {G : Nat → zH → List zAV → List zAV → Option zH} (es : List zEnt) (σ : zH) (x1 : Int32) (x2 : Int32)  (w110 : Int32) (w115 : Int32) : zev cc_X11_barracksPart G 9 krV (zE 104 (.aload_n 0) 1 :: zEf 105 (.getfield 61) 3 11 18 166 (2, 59, 0) :: zE 108 (.iload_n 2) 1 :: zE 109 (.aload_n 0) 1 :: zEk 110 (.iconst 0) 1 w110 :: zE 111 (.aload_n 0) 1 :: zEf 112 (.getfield 40) 3 11 11 159 (2, 52, 0) :: zEk 115 (.iconst 0) 1 w115 :: es) σ [vR 11 0, vI x1, vI x2] [] = zev cc_X11_barracksPart G 9 krV es σ [vR 11 0, vI x1, vI x2] [vI w115, vR 52 0, vI w110, vR 11 0, vI x2, vR 59 0] := rfl
theorem t_X11_barracksPart_117 {G : Nat → zH → List zAV → List zAV → Option zH} (es : List zEnt) (σ : zH) (x1 : Int32) (x2 : Int32) (xs1 : Int32) (xs3 : Int32) (xs4 : Int32)  (w117 : Int32) : zev cc_X11_barracksPart G 9 krV (zEk 117 (.iconst 1) 1 w117 :: zE 118 .isub 1 :: es) σ [vR 11 0, vI x1, vI x2] [vI xs4, vI xs3, vR 11 0, vI xs1, vR 59 0] = zev cc_X11_barracksPart G 9 krV es σ [vR 11 0, vI x1, vI x2] [vI (xs4 - w117), vI xs3, vR 11 0, vI xs1, vR 59 0] := rfl
theorem t_X11_barracksPart_123 {G : Nat → zH → List zAV → List zAV → Option zH} (es : List zEnt) (σ : zH) (x1 : Int32) (x2 : Int32)  (w129 : Int32) (w130 : Int32) : zev cc_X11_barracksPart G 9 krV (zE 123 (.aload_n 0) 1 :: zEf 124 (.getfield 64) 3 11 19 167 (2, 60, 0) :: zE 127 (.iload_n 2) 1 :: zE 128 (.aload_n 0) 1 :: zEk 129 (.iconst 0) 1 w129 :: zEk 130 (.bipush 95) 2 w130 :: es) σ [vR 11 0, vI x1, vI x2] [] = zev cc_X11_barracksPart G 9 krV es σ [vR 11 0, vI x1, vI x2] [vI w130, vI w129, vR 11 0, vI x2, vR 60 0] := rfl
theorem t_X11_barracksPart_136 {G : Nat → zH → List zAV → List zAV → Option zH} (es : List zEnt) (σ : zH) (x1 : Int32) (x2 : Int32)   : zev cc_X11_barracksPart G 9 krV (zE 136 (.aload_n 0) 1 :: zEf 137 (.getfield 67) 3 11 20 168 (2, 61, 0) :: zE 140 (.iload_n 2) 1 :: zE 141 (.aload_n 0) 1 :: zE 142 (.aload_n 0) 1 :: zEf 143 (.getfield 64) 3 11 19 167 (2, 60, 0) :: zE 146 (.iload_n 2) 1 :: es) σ [vR 11 0, vI x1, vI x2] [] = zev cc_X11_barracksPart G 9 krV es σ [vR 11 0, vI x1, vI x2] [vI x2, vR 60 0, vR 11 0, vI x2, vR 61 0] := rfl
theorem t_X11_barracksPart_148 {G : Nat → zH → List zAV → List zAV → Option zH} (es : List zEnt) (σ : zH) (x1 : Int32) (xs1 : Int32) (xs3 : Int32) (y2 : zAV) (w148 : Int32) : zev cc_X11_barracksPart G 9 krV (zEk 148 (.bipush 95) 2 w148 :: es) σ [vR 11 0, vI x1, y2] [vI xs3, vR 11 0, vI xs1, vR 61 0] = zev cc_X11_barracksPart G 9 krV es σ [vR 11 0, vI x1, y2] [vI w148, vI xs3, vR 11 0, vI xs1, vR 61 0] := rfl
theorem t_X11_barracksPart_157 {G : Nat → zH → List zAV → List zAV → Option zH} (es : List zEnt) (σ : zH) (x1 : Int32) (y2 : zAV) (w161 : Int32) (w163 : Int32) (w164 : Int32) : zev cc_X11_barracksPart G 9 krV (zE 157 (.aload_n 0) 1 :: zEf 158 (.getfield 40) 3 11 11 159 (2, 52, 0) :: zEk 161 (.iconst 3) 1 w161 :: zE 162 (.aload_n 0) 1 :: zEk 163 (.iconst 0) 1 w163 :: zEk 164 (.sipush 1200) 3 w164 :: es) σ [vR 11 0, vI x1, y2] [] = zev cc_X11_barracksPart G 9 krV es σ [vR 11 0, vI x1, y2] [vI w164, vI w163, vR 11 0, vI w161, vR 52 0] := rfl
theorem t_X11_barracksPart_171 {G : Nat → zH → List zAV → List zAV → Option zH} (es : List zEnt) (σ : zH) (x1 : Int32) (y2 : zAV) (w172 : Int32) : zev cc_X11_barracksPart G 9 krV (zE 171 (.aload_n 0) 1 :: zEk 172 (.iconst 1) 1 w172 :: es) σ [vR 11 0, vI x1, y2] [] = zev cc_X11_barracksPart G 9 krV es σ [vR 11 0, vI x1, y2] [vI w172, vR 11 0] := rfl
theorem t_X11_barracksPart_176 {G : Nat → zH → List zAV → List zAV → Option zH} (es : List zEnt) (σ : zH) (x1 : Int32) (y2 : zAV)  : zev cc_X11_barracksPart G 9 krV (zE 176 (.aload_n 0) 1 :: zEf 177 (.getfield 40) 3 11 11 159 (2, 52, 0) :: zE 180 (.iload_n 1) 1 :: zE 181 .dup2 1 :: es) σ [vR 11 0, vI x1, y2] [] = zev cc_X11_barracksPart G 9 krV es σ [vR 11 0, vI x1, y2] [vI x1, vR 52 0, vI x1, vR 52 0] := rfl
theorem t_X11_barracksPart_183 {G : Nat → zH → List zAV → List zAV → Option zH} (es : List zEnt) (σ : zH) (x1 : Int32) (xs1 : Int32) (xs2 : Int32) (y0 : zAV) (y2 : zAV) (w184 : Int32) : zev cc_X11_barracksPart G 9 krV (zE 183 (.iload_n 1) 1 :: zEk 184 (.iconst 3) 1 w184 :: es) σ [y0, vI x1, y2] [vI xs2, vI xs1, vR 52 0] = zev cc_X11_barracksPart G 9 krV es σ [y0, vI x1, y2] [vI w184, vI x1, vI xs2, vI xs1, vR 52 0] := rfl
theorem t_X11_barracksPart_188 {G : Nat → zH → List zAV → List zAV → Option zH} (es : List zEnt) (σ : zH) (xs1 : Int32) (xs2 : Int32) (y0 : zAV) (y1 : zAV) (y2 : zAV) (w188 : Int32) : zev cc_X11_barracksPart G 9 krV (zEk 188 (.iconst 1) 1 w188 :: es) σ [y0, y1, y2] [vI xs2, vI xs1, vR 52 0] = zev cc_X11_barracksPart G 9 krV es σ [y0, y1, y2] [vI w188, vI xs2, vI xs1, vR 52 0] := rfl
theorem t_X11_barracksPart_192 {G : Nat → zH → List zAV → List zAV → Option zH} (es : List zEnt) (σ : zH) (xs1 : Int32) (xs2 : Int32) (y0 : zAV) (y1 : zAV) (y2 : zAV) (w192 : Int32) : zev cc_X11_barracksPart G 9 krV (zEk 192 (.iconst 0) 1 w192 :: es) σ [y0, y1, y2] [vI xs2, vI xs1, vR 52 0] = zev cc_X11_barracksPart G 9 krV es σ [y0, y1, y2] [vI w192, vI xs2, vI xs1, vR 52 0] := rfl
theorem t_X11_barracksPart_193 {G : Nat → zH → List zAV → List zAV → Option zH} (es : List zEnt) (σ : zH) (xs1 : Int32) (xs2 : Int32) (xs3 : Int32) (y0 : zAV) (y1 : zAV) (y2 : zAV)  : zev cc_X11_barracksPart G 9 krV (zE 193 .iadd 1 :: es) σ [y0, y1, y2] [vI xs3, vI xs2, vI xs1, vR 52 0] = zev cc_X11_barracksPart G 9 krV es σ [y0, y1, y2] [vI (xs2 + xs3), vI xs1, vR 52 0] := rfl
noncomputable def j_X11_barracksPart_193  (σ : zH) (xs1 : Int32) (xs2 : Int32) (xs3 : Int32) : Option zH :=
  ix xs1 4 fun j2 =>
  zlet (uI σ 52 0 j2 (xs2 + xs3)) fun σ1 =>
  some σ1
theorem e_X11_barracksPart_193  (σ : zH) (xs1 : Int32) (xs2 : Int32) (xs3 : Int32) (y0 : zAV) (y1 : zAV) (y2 : zAV) : j_X11_barracksPart_193 σ xs1 xs2 xs3 = zin cc_X11_barracksPart (fun t => none) 9 krV b_X11_barracksPart 193 σ [y0, y1, y2] [vI xs3, vI xs2, vI xs1, vR 52 0] := by
  unfold j_X11_barracksPart_193
  refine Eq.symm ((zin_b (es := q_X11_barracksPart_193) rfl).trans ?_)
  refine (t_X11_barracksPart_193 _ _ _ _ _ _ _ _).trans ?_
  refine (x_iast (N := 4) rfl rfl).trans (pix fun _ => plt fun _ => ?_)
  exact x_vret
theorem s_X11_barracksPart_193 {X : zX} (hX : zHX X)   : ∀ σ L st r, gl_X11_barracksPart_193 j_X11_barracksPart_193 σ L st = some r → zGW X 155 krV 193 σ L st r := by
  intro σ L st r h
  unfold gl_X11_barracksPart_193 at h
  split at h
  · exact zin_ok (hy_X11_barracksPart hX) bk_X11_barracksPart (fun t f hf => by
    cases hf) ((e_X11_barracksPart_193 _ _ _ _ _ _ _).symm.trans h)
  · cases h
noncomputable def j_X11_barracksPart_176  (σ : zH) (x1 : Int32) : Option zH :=
  ix x1 4 fun j1 =>
  if x1 < (3 : Int32) then
    j_X11_barracksPart_193 σ x1 (σ.1 52 0 j1) (1 : Int32)
  else
    j_X11_barracksPart_193 σ x1 (σ.1 52 0 j1) (0 : Int32)
theorem e_X11_barracksPart_176  (σ : zH) (x1 : Int32) (y2 : zAV) : j_X11_barracksPart_176 σ x1 = zin cc_X11_barracksPart (fun t => if t = 193 then some (gl_X11_barracksPart_193 j_X11_barracksPart_193) else none) 9 krV b_X11_barracksPart 176 σ [vR 11 0, vI x1, y2] [] := by
  unfold j_X11_barracksPart_176
  refine Eq.symm ((zin_b (es := q_X11_barracksPart_176) rfl).trans ?_)
  refine (t_X11_barracksPart_176 _ _ _ _).trans ?_
  refine (x_iald (N := 4) rfl rfl).trans (pix fun _ => ?_)
  refine (t_X11_barracksPart_183 _ _ _ _ _ _ _ _).trans ?_
  refine x_icmp.trans (pif_ge ?_ ?_)
  · refine (zrun_b (es := q_X11_barracksPart_192) rfl rfl).trans ?_
    refine (t_X11_barracksPart_192 _ _ _ _ _ _ _ _).trans ?_
    refine x_cut.trans ?_
    exact (zrun_c rfl).trans (glr_X11_barracksPart_193 _ _ _ _ _ _ _ _)
  · refine (t_X11_barracksPart_188 _ _ _ _ _ _ _ _).trans ?_
    refine x_goto.trans ?_
    exact (zrun_c rfl).trans (glr_X11_barracksPart_193 _ _ _ _ _ _ _ _)
theorem s_X11_barracksPart_176 {X : zX} (hX : zHX X)   : ∀ σ L st r, gl_X11_barracksPart_176 j_X11_barracksPart_176 σ L st = some r → zGW X 155 krV 176 σ L st r := by
  intro σ L st r h
  unfold gl_X11_barracksPart_176 at h
  split at h
  · exact zin_ok (hy_X11_barracksPart hX) bk_X11_barracksPart (fun t f hf => by
    by_cases e193 : t = 193
    · rw [if_pos e193] at hf; subst e193; cases hf; exact (s_X11_barracksPart_193 hX)
    rw [if_neg e193] at hf
    cases hf) ((e_X11_barracksPart_176 _ _ _).symm.trans h)
  · cases h
noncomputable def d_X11_barracksPart (σ : zH) (xa1 : Int32) : Option zH :=
  ix xa1 4 fun j1 =>
  if xa1 = 0 then
    (d_X11_amount σ (1 : Int32) (99 : Int32)).bind fun p21 =>
    ix (σ.1 52 0 j1) 12 fun j32 =>
    zlet (uI p21.1 53 0 j32 p21.2) fun σ22 =>
    (d_X11_amount σ22 (0 : Int32) (3 : Int32)).bind fun p23 =>
    ix (σ.1 52 0 j1) 12 fun j31 =>
    zlet (uI p23.1 54 0 j31 p23.2) fun σ24 =>
    (d_X11_amount σ24 (0 : Int32) (11 : Int32)).bind fun p25 =>
    ix (σ.1 52 0 j1) 12 fun j30 =>
    zlet (uI p25.1 55 0 j30 p25.2) fun σ26 =>
    (d_X11_amount σ26 (0 : Int32) (100 : Int32)).bind fun p27 =>
    ix (σ.1 52 0 j1) 12 fun j29 =>
    zlet (uI p27.1 56 0 j29 p27.2) fun σ28 =>
    j_X11_barracksPart_176 σ28 xa1
  else
    if xa1 = (1 : Int32) then
      (d_X11_amount σ (0 : Int32) (95 : Int32)).bind fun p15 =>
      ix (σ.1 52 0 j1) 8 fun j20 =>
      zlet (uI p15.1 57 0 j20 p15.2) fun σ16 =>
      (d_X11_amount σ16 (1 : Int32) (9 : Int32)).bind fun p17 =>
      ix (σ.1 52 0 j1) 8 fun j19 =>
      zlet (uI p17.1 58 0 j19 p17.2) fun σ18 =>
      j_X11_barracksPart_176 σ18 xa1
    else
      if xa1 = (2 : Int32) then
        (d_X11_amount σ (0 : Int32) ((σ.1 52 0 0) - (1 : Int32))).bind fun p5 =>
        ix (σ.1 52 0 j1) 8 fun j14 =>
        zlet (uI p5.1 59 0 j14 p5.2) fun σ6 =>
        (d_X11_amount σ6 (0 : Int32) (95 : Int32)).bind fun p7 =>
        ix (σ.1 52 0 j1) 8 fun j13 =>
        zlet (uI p7.1 60 0 j13 p7.2) fun σ8 =>
        ix (σ.1 52 0 j1) 8 fun j9 =>
        (d_X11_amount σ8 (σ8.1 60 0 j9) (95 : Int32)).bind fun p10 =>
        ix (σ.1 52 0 j1) 8 fun j12 =>
        zlet (uI p10.1 61 0 j12 p10.2) fun σ11 =>
        j_X11_barracksPart_176 σ11 xa1
      else
        (d_X11_amount σ (0 : Int32) (1200 : Int32)).bind fun p2 =>
        zlet (uI p2.1 52 0 3 p2.2) fun σ3 =>
        zlet (uI σ3 11 0 40 (1 : Int32)) fun σ4 =>
        j_X11_barracksPart_176 σ4 xa1
theorem e_X11_barracksPart (σ : zH) (xa1 : Int32) : d_X11_barracksPart σ xa1 = zin cc_X11_barracksPart (fun t => if t = 176 then some (gl_X11_barracksPart_176 j_X11_barracksPart_176) else none) 9 krV b_X11_barracksPart 0 σ [vR 11 0, vI xa1, vU] [] := by
  unfold d_X11_barracksPart
  refine Eq.symm ((zin_b (es := q_X11_barracksPart_0) rfl).trans ?_)
  refine (t_X11_barracksPart_0 _ _ _ _).trans ?_
  refine (x_iald (N := 4) rfl rfl).trans (pix fun _ => ?_)
  refine (t_X11_barracksPart_6 _ _ _ _ _).trans ?_
  refine x_if.trans (pif_ne ?_ ?_)
  · refine (zrun_b (es := q_X11_barracksPart_65) rfl rfl).trans ?_
    refine (t_X11_barracksPart_65 _ _ _ _ _).trans ?_
    refine x_icmp.trans (pif_ne ?_ ?_)
    · refine (zrun_b (es := q_X11_barracksPart_99) rfl rfl).trans ?_
      refine (t_X11_barracksPart_99 _ _ _ _ _).trans ?_
      refine x_icmp.trans (pif_ne ?_ ?_)
      · refine (zrun_b (es := q_X11_barracksPart_157) rfl rfl).trans ?_
        refine (t_X11_barracksPart_157 _ _ _ _ _ _ _).trans ?_
        refine (x_callV rfl rfl rfl rfl).trans ((cl_X11_barracksPart_X11_amount _ _ _).trans ((gr_X11_amount _ _ _ _).trans (pbd fun _ => ?_)))
        refine (x_iast (N := 4) rfl rfl).trans ((ix_l 3 (by decide +kernel)).trans (plt fun _ => ?_))
        refine (t_X11_barracksPart_171 _ _ _ _ _).trans ?_
        refine (x_pf1.trans (tv_l (by decide +kernel))).trans (plt fun _ => ?_)
        refine x_cut.trans ?_
        exact (zrun_c rfl).trans (glr_X11_barracksPart_176 _ _ _ _)
      · refine (t_X11_barracksPart_104 _ _ _ _ _ _).trans ?_
        refine ((x_iald (N := 4) rfl rfl).trans (ix_l 0 (by decide +kernel))).trans ?_
        refine (t_X11_barracksPart_117 _ _ _ _ _ _ _ _).trans ?_
        refine (x_callV rfl rfl rfl rfl).trans ((cl_X11_barracksPart_X11_amount _ _ _).trans ((gr_X11_amount _ _ _ _).trans (pbd fun _ => ?_)))
        refine (x_iast (N := 8) rfl rfl).trans (pix fun _ => plt fun _ => ?_)
        refine (t_X11_barracksPart_123 _ _ _ _ _ _).trans ?_
        refine (x_callV rfl rfl rfl rfl).trans ((cl_X11_barracksPart_X11_amount _ _ _).trans ((gr_X11_amount _ _ _ _).trans (pbd fun _ => ?_)))
        refine (x_iast (N := 8) rfl rfl).trans (pix fun _ => plt fun _ => ?_)
        refine (t_X11_barracksPart_136 _ _ _ _).trans ?_
        refine (x_iald (N := 8) rfl rfl).trans (pix fun _ => ?_)
        refine (t_X11_barracksPart_148 _ _ _ _ _ _ _).trans ?_
        refine (x_callV rfl rfl rfl rfl).trans ((cl_X11_barracksPart_X11_amount _ _ _).trans ((gr_X11_amount _ _ _ _).trans (pbd fun _ => ?_)))
        refine (x_iast (N := 8) rfl rfl).trans (pix fun _ => plt fun _ => ?_)
        refine x_goto.trans ?_
        exact (zrun_c rfl).trans (glr_X11_barracksPart_176 _ _ _ _)
    · refine (t_X11_barracksPart_70 _ _ _ _ _ _).trans ?_
      refine (x_callV rfl rfl rfl rfl).trans ((cl_X11_barracksPart_X11_amount _ _ _).trans ((gr_X11_amount _ _ _ _).trans (pbd fun _ => ?_)))
      refine (x_iast (N := 8) rfl rfl).trans (pix fun _ => plt fun _ => ?_)
      refine (t_X11_barracksPart_83 _ _ _ _ _ _).trans ?_
      refine (x_callV rfl rfl rfl rfl).trans ((cl_X11_barracksPart_X11_amount _ _ _).trans ((gr_X11_amount _ _ _ _).trans (pbd fun _ => ?_)))
      refine (x_iast (N := 8) rfl rfl).trans (pix fun _ => plt fun _ => ?_)
      refine x_goto.trans ?_
      exact (zrun_c rfl).trans (glr_X11_barracksPart_176 _ _ _ _)
  · refine (t_X11_barracksPart_11 _ _ _ _ _ _).trans ?_
    refine (x_callV rfl rfl rfl rfl).trans ((cl_X11_barracksPart_X11_amount _ _ _).trans ((gr_X11_amount _ _ _ _).trans (pbd fun _ => ?_)))
    refine (x_iast (N := 12) rfl rfl).trans (pix fun _ => plt fun _ => ?_)
    refine (t_X11_barracksPart_24 _ _ _ _ _ _).trans ?_
    refine (x_callV rfl rfl rfl rfl).trans ((cl_X11_barracksPart_X11_amount _ _ _).trans ((gr_X11_amount _ _ _ _).trans (pbd fun _ => ?_)))
    refine (x_iast (N := 12) rfl rfl).trans (pix fun _ => plt fun _ => ?_)
    refine (t_X11_barracksPart_36 _ _ _ _ _ _).trans ?_
    refine (x_callV rfl rfl rfl rfl).trans ((cl_X11_barracksPart_X11_amount _ _ _).trans ((gr_X11_amount _ _ _ _).trans (pbd fun _ => ?_)))
    refine (x_iast (N := 12) rfl rfl).trans (pix fun _ => plt fun _ => ?_)
    refine (t_X11_barracksPart_49 _ _ _ _ _ _).trans ?_
    refine (x_callV rfl rfl rfl rfl).trans ((cl_X11_barracksPart_X11_amount _ _ _).trans ((gr_X11_amount _ _ _ _).trans (pbd fun _ => ?_)))
    refine (x_iast (N := 12) rfl rfl).trans (pix fun _ => plt fun _ => ?_)
    refine x_goto.trans ?_
    exact (zrun_c rfl).trans (glr_X11_barracksPart_176 _ _ _ _)
noncomputable def g_X11_barracksPart {ρ : Type} (σ : zH) (av : List zAV) (q : zH → zAV → Option ρ) : Option ρ := match av with
  | [.inr (.inr (.inl (11, 0))), .inl xa1] => (d_X11_barracksPart σ xa1).bind fun σ => q σ vU
  | _ => none
theorem gr_X11_barracksPart {ρ : Type} (σ : zH) (xa1 : Int32) (q : zH → zAV → Option ρ) : g_X11_barracksPart σ [vR 11 0, vI xa1] q = (d_X11_barracksPart σ xa1).bind fun σ => q σ vU := rfl
theorem c_X11_barracksPart {ρ : Type} {X : zX} (hX : zHX X) {σ : zH} {av : List zAV} {q : zH → zAV → Option ρ} {r : ρ} (h : g_X11_barracksPart σ av q = some r) (hv : ∀ a ∈ av, zval X a) : zcon X 155 σ av q r := by
  unfold g_X11_barracksPart at h
  split at h
  · exact zcon_V (n := 155) (ml := 3) (rc := 9) (st := 0) (kd := 11) (np := 1) (by decide +kernel) rfl ⟨_, _, rfl, rfl⟩ (Nat.le_of_ble_eq_true rfl) hv h (fun y h1 => (zin_ok (hy_X11_barracksPart hX) bk_X11_barracksPart (fun t f hf => by
      by_cases e176 : t = 176
      · rw [if_pos e176] at hf; subst e176; cases hf; exact (s_X11_barracksPart_176 hX)
      rw [if_neg e176] at hf
      cases hf) ((e_X11_barracksPart _ _).symm.trans h1)))
  · cases h
/-! SleepWavesModel.isFull(II)Z -/
def q_X11_isFull_18 : List zEnt := zEa 18 (.goto 33) 3 51 :: []
def q_X11_isFull_15 : List zEnt := zEa 15 (.ifCond .eq 40) 3 55 :: q_X11_isFull_18
def q_X11_isFull_11 : List zEnt := zE 11 (.aload_n 0) 1 :: zEf 12 (.getfield 309) 3 11 40 188 (0, 1, 0) :: q_X11_isFull_15
def q_X11_isFull_8 : List zEnt := zEa 8 (.if_icmp .ne 13) 3 21 :: q_X11_isFull_11
def q_X11_isFull_6 : List zEnt := zE 6 (.iload_n 1) 1 :: zEk 7 (.iconst 3) 1 3 :: q_X11_isFull_8
def q_X11_isFull_3 : List zEnt := zEa 3 (.if_icmp .eq 48) 3 51 :: q_X11_isFull_6
def q_X11_isFull_0 : List zEnt := zE 0 (.iload_n 2) 1 :: zEk 1 (.bipush 24) 2 24 :: q_X11_isFull_3
def q_X11_isFull_33 : List zEnt := zEa 33 (.goto 15) 3 48 :: []
def q_X11_isFull_31 : List zEnt := zEk 31 (.bipush 12) 2 12 :: q_X11_isFull_33
def q_X11_isFull_28 : List zEnt := zEa 28 (.ifCond .ne 8) 3 36 :: q_X11_isFull_31
def q_X11_isFull_27 : List zEnt := zE 27 (.iload_n 1) 1 :: q_X11_isFull_28
def q_X11_isFull_26 : List zEnt := zE 26 .iaload 1 :: q_X11_isFull_27
def q_X11_isFull_21 : List zEnt := zE 21 (.aload_n 0) 1 :: zEf 22 (.getfield 40) 3 11 11 159 (2, 52, 0) :: zE 25 (.iload_n 1) 1 :: q_X11_isFull_26
def q_X11_isFull_43 : List zEnt := zEa 43 (.goto 5) 3 48 :: []
def q_X11_isFull_41 : List zEnt := zEk 41 (.bipush 8) 2 8 :: q_X11_isFull_43
def q_X11_isFull_38 : List zEnt := zEa 38 (.if_icmp .ne 8) 3 46 :: q_X11_isFull_41
def q_X11_isFull_36 : List zEnt := zE 36 (.iload_n 1) 1 :: zEk 37 (.iconst 1) 1 1 :: q_X11_isFull_38
def q_X11_isFull_46 : List zEnt := zEk 46 (.bipush 8) 2 8 :: [zE 48 .nop 0]
def q_X11_isFull_52 : List zEnt := zEa 52 (.goto 4) 3 56 :: []
def q_X11_isFull_51 : List zEnt := zEk 51 (.iconst 1) 1 1 :: q_X11_isFull_52
def q_X11_isFull_48 : List zEnt := zEa 48 (.if_icmp .ne 7) 3 55 :: q_X11_isFull_51
def q_X11_isFull_56 : List zEnt := zE 56 .ireturn 1 :: []
def q_X11_isFull_55 : List zEnt := zEk 55 (.iconst 0) 1 0 :: q_X11_isFull_56
def b_X11_isFull : List (Nat × List zEnt) := [(0, q_X11_isFull_0), (21, q_X11_isFull_21), (36, q_X11_isFull_36), (46, q_X11_isFull_46), (48, q_X11_isFull_48), (51, q_X11_isFull_51), (55, q_X11_isFull_55), (56, q_X11_isFull_56)]
theorem bk_X11_isFull : zchB 156 b_X11_isFull = true := by decide +kernel
theorem hy_X11_isFull {ρ : Type} {X : zX} (hX : zHX X) : zHY X 156 (zc0 (ρ := ρ)) := zHX.hY hX (zc0_ok X) (zmok_all 156 (by decide))
def gl_X11_isFull_48 {ρ : Type} (f : zH → Int32 → Int32 → Option ρ) (σ : zH) (L st : List zAV) : Option ρ := match L, st with
  | [_, _, _], [.inl xs1, .inl xs0] => f σ xs0 xs1
  | _, _ => none
theorem glr_X11_isFull_48 {ρ : Type} (f : zH → Int32 → Int32 → Option ρ) (σ : zH) (xs0 : Int32) (xs1 : Int32) (y0 : zAV) (y1 : zAV) (y2 : zAV) : gl_X11_isFull_48 f σ [y0, y1, y2] [vI xs1, vI xs0] = f σ xs0 xs1 := rfl
theorem t_X11_isFull_0 {G : Nat → zH → List zAV → List zAV → Option (zH × Int32)} (es : List zEnt) (σ : zH) (x1 : Int32) (x2 : Int32)  (w1 : Int32) : zev zc0 G 1 krI (zE 0 (.iload_n 2) 1 :: zEk 1 (.bipush 24) 2 w1 :: es) σ [vR 11 0, vI x1, vI x2] [] = zev zc0 G 1 krI es σ [vR 11 0, vI x1, vI x2] [vI w1, vI x2] := rfl
theorem t_X11_isFull_6 {G : Nat → zH → List zAV → List zAV → Option (zH × Int32)} (es : List zEnt) (σ : zH) (x1 : Int32) (y2 : zAV) (w7 : Int32) : zev zc0 G 1 krI (zE 6 (.iload_n 1) 1 :: zEk 7 (.iconst 3) 1 w7 :: es) σ [vR 11 0, vI x1, y2] [] = zev zc0 G 1 krI es σ [vR 11 0, vI x1, y2] [vI w7, vI x1] := rfl
theorem t_X11_isFull_11 {G : Nat → zH → List zAV → List zAV → Option (zH × Int32)} (es : List zEnt) (σ : zH)  (y1 : zAV) (y2 : zAV)  : zev zc0 G 1 krI (zE 11 (.aload_n 0) 1 :: zEf 12 (.getfield 309) 3 11 40 188 (0, 1, 0) :: es) σ [vR 11 0, y1, y2] [] = zev zc0 G 1 krI es σ [vR 11 0, y1, y2] [vI (σ.1 11 0 40)] := rfl
theorem t_X11_isFull_21 {G : Nat → zH → List zAV → List zAV → Option (zH × Int32)} (es : List zEnt) (σ : zH) (x1 : Int32) (y2 : zAV)  : zev zc0 G 1 krI (zE 21 (.aload_n 0) 1 :: zEf 22 (.getfield 40) 3 11 11 159 (2, 52, 0) :: zE 25 (.iload_n 1) 1 :: es) σ [vR 11 0, vI x1, y2] [] = zev zc0 G 1 krI es σ [vR 11 0, vI x1, y2] [vI x1, vR 52 0] := rfl
theorem t_X11_isFull_27 {G : Nat → zH → List zAV → List zAV → Option (zH × Int32)} (es : List zEnt) (σ : zH) (x1 : Int32) (xs0 : Int32) (y0 : zAV) (y2 : zAV)  : zev zc0 G 1 krI (zE 27 (.iload_n 1) 1 :: es) σ [y0, vI x1, y2] [vI xs0] = zev zc0 G 1 krI es σ [y0, vI x1, y2] [vI x1, vI xs0] := rfl
theorem t_X11_isFull_31 {G : Nat → zH → List zAV → List zAV → Option (zH × Int32)} (es : List zEnt) (σ : zH) (xs0 : Int32) (y0 : zAV) (y1 : zAV) (y2 : zAV) (w31 : Int32) : zev zc0 G 1 krI (zEk 31 (.bipush 12) 2 w31 :: es) σ [y0, y1, y2] [vI xs0] = zev zc0 G 1 krI es σ [y0, y1, y2] [vI w31, vI xs0] := rfl
theorem t_X11_isFull_36 {G : Nat → zH → List zAV → List zAV → Option (zH × Int32)} (es : List zEnt) (σ : zH) (x1 : Int32) (xs0 : Int32) (y0 : zAV) (y2 : zAV) (w37 : Int32) : zev zc0 G 1 krI (zE 36 (.iload_n 1) 1 :: zEk 37 (.iconst 1) 1 w37 :: es) σ [y0, vI x1, y2] [vI xs0] = zev zc0 G 1 krI es σ [y0, vI x1, y2] [vI w37, vI x1, vI xs0] := rfl
theorem t_X11_isFull_41 {G : Nat → zH → List zAV → List zAV → Option (zH × Int32)} (es : List zEnt) (σ : zH) (xs0 : Int32) (y0 : zAV) (y1 : zAV) (y2 : zAV) (w41 : Int32) : zev zc0 G 1 krI (zEk 41 (.bipush 8) 2 w41 :: es) σ [y0, y1, y2] [vI xs0] = zev zc0 G 1 krI es σ [y0, y1, y2] [vI w41, vI xs0] := rfl
theorem t_X11_isFull_46 {G : Nat → zH → List zAV → List zAV → Option (zH × Int32)} (es : List zEnt) (σ : zH) (xs0 : Int32) (y0 : zAV) (y1 : zAV) (y2 : zAV) (w46 : Int32) : zev zc0 G 1 krI (zEk 46 (.bipush 8) 2 w46 :: es) σ [y0, y1, y2] [vI xs0] = zev zc0 G 1 krI es σ [y0, y1, y2] [vI w46, vI xs0] := rfl
theorem t_X11_isFull_51 {G : Nat → zH → List zAV → List zAV → Option (zH × Int32)} (es : List zEnt) (σ : zH)  (y0 : zAV) (y1 : zAV) (y2 : zAV) (w51 : Int32) : zev zc0 G 1 krI (zEk 51 (.iconst 1) 1 w51 :: es) σ [y0, y1, y2] [] = zev zc0 G 1 krI es σ [y0, y1, y2] [vI w51] := rfl
theorem t_X11_isFull_55 {G : Nat → zH → List zAV → List zAV → Option (zH × Int32)} (es : List zEnt) (σ : zH)  (y0 : zAV) (y1 : zAV) (y2 : zAV) (w55 : Int32) : zev zc0 G 1 krI (zEk 55 (.iconst 0) 1 w55 :: es) σ [y0, y1, y2] [] = zev zc0 G 1 krI es σ [y0, y1, y2] [vI w55] := rfl
noncomputable def j_X11_isFull_48  (σ : zH) (xs0 : Int32) (xs1 : Int32) : Option (zH × Int32) :=
  if xs0 = xs1 then
    some (σ, (1 : Int32))
  else
    some (σ, (0 : Int32))
theorem e_X11_isFull_48  (σ : zH) (xs0 : Int32) (xs1 : Int32) (y0 : zAV) (y1 : zAV) (y2 : zAV) : j_X11_isFull_48 σ xs0 xs1 = zin zc0 (fun t => none) 1 krI b_X11_isFull 48 σ [y0, y1, y2] [vI xs1, vI xs0] := by
  unfold j_X11_isFull_48
  refine Eq.symm ((zin_b (es := q_X11_isFull_48) rfl).trans ?_)
  refine x_icmp.trans (pif_ne ?_ ?_)
  · refine (zrun_b (es := q_X11_isFull_55) rfl rfl).trans ?_
    refine (t_X11_isFull_55 _ _ _ _ _ _).trans ?_
    exact x_zret.trans (tv_l (by decide +kernel))
  · refine (t_X11_isFull_51 _ _ _ _ _ _).trans ?_
    refine x_goto.trans ?_
    refine (zrun_b (es := q_X11_isFull_56) rfl rfl).trans ?_
    exact x_zret.trans (tv_l (by decide +kernel))
theorem s_X11_isFull_48 {X : zX} (hX : zHX X)   : ∀ σ L st r, gl_X11_isFull_48 j_X11_isFull_48 σ L st = some r → zGW X 156 krI 48 σ L st r := by
  intro σ L st r h
  unfold gl_X11_isFull_48 at h
  split at h
  · exact zin_ok (hy_X11_isFull hX) bk_X11_isFull (fun t f hf => by
    cases hf) ((e_X11_isFull_48 _ _ _ _ _ _).symm.trans h)
  · cases h
noncomputable def d_X11_isFull (σ : zH) (xa1 : Int32) (xa2 : Int32) : Option (zH × Int32) :=
  if xa2 = (24 : Int32) then
    some (σ, (1 : Int32))
  else
    if xa1 = (3 : Int32) then
      if (σ.1 11 0 40) = 0 then
        some (σ, (0 : Int32))
      else
        some (σ, (1 : Int32))
    else
      ix xa1 4 fun j1 =>
      if xa1 = 0 then
        j_X11_isFull_48 σ (σ.1 52 0 j1) (12 : Int32)
      else
        if xa1 = (1 : Int32) then
          j_X11_isFull_48 σ (σ.1 52 0 j1) (8 : Int32)
        else
          j_X11_isFull_48 σ (σ.1 52 0 j1) (8 : Int32)
theorem e_X11_isFull (σ : zH) (xa1 : Int32) (xa2 : Int32) : d_X11_isFull σ xa1 xa2 = zin zc0 (fun t => if t = 48 then some (gl_X11_isFull_48 j_X11_isFull_48) else none) 1 krI b_X11_isFull 0 σ [vR 11 0, vI xa1, vI xa2] [] := by
  unfold d_X11_isFull
  refine Eq.symm ((zin_b (es := q_X11_isFull_0) rfl).trans ?_)
  refine (t_X11_isFull_0 _ _ _ _ _).trans ?_
  refine x_icmp.trans (pif_eq ?_ ?_)
  · refine (zrun_b (es := q_X11_isFull_51) rfl rfl).trans ?_
    refine (t_X11_isFull_51 _ _ _ _ _ _).trans ?_
    refine x_goto.trans ?_
    refine (zrun_b (es := q_X11_isFull_56) rfl rfl).trans ?_
    exact x_zret.trans (tv_l (by decide +kernel))
  · refine (t_X11_isFull_6 _ _ _ _ _).trans ?_
    refine x_icmp.trans (pif_ne ?_ ?_)
    · refine (zrun_b (es := q_X11_isFull_21) rfl rfl).trans ?_
      refine (t_X11_isFull_21 _ _ _ _).trans ?_
      refine (x_iald (N := 4) rfl rfl).trans (pix fun _ => ?_)
      refine (t_X11_isFull_27 _ _ _ _ _ _).trans ?_
      refine x_if.trans (pif_ne ?_ ?_)
      · refine (zrun_b (es := q_X11_isFull_36) rfl rfl).trans ?_
        refine (t_X11_isFull_36 _ _ _ _ _ _ _).trans ?_
        refine x_icmp.trans (pif_ne ?_ ?_)
        · refine (zrun_b (es := q_X11_isFull_46) rfl rfl).trans ?_
          refine (t_X11_isFull_46 _ _ _ _ _ _ _).trans ?_
          refine x_cut.trans ?_
          exact (zrun_c rfl).trans (glr_X11_isFull_48 _ _ _ _ _ _ _)
        · refine (t_X11_isFull_41 _ _ _ _ _ _ _).trans ?_
          refine x_goto.trans ?_
          exact (zrun_c rfl).trans (glr_X11_isFull_48 _ _ _ _ _ _ _)
      · refine (t_X11_isFull_31 _ _ _ _ _ _ _).trans ?_
        refine x_goto.trans ?_
        exact (zrun_c rfl).trans (glr_X11_isFull_48 _ _ _ _ _ _ _)
    · refine (t_X11_isFull_11 _ _ _ _).trans ?_
      refine x_if.trans (pif_eq ?_ ?_)
      · refine (zrun_b (es := q_X11_isFull_55) rfl rfl).trans ?_
        refine (t_X11_isFull_55 _ _ _ _ _ _).trans ?_
        exact x_zret.trans (tv_l (by decide +kernel))
      · refine x_goto.trans ?_
        refine (zrun_b (es := q_X11_isFull_51) rfl rfl).trans ?_
        refine (t_X11_isFull_51 _ _ _ _ _ _).trans ?_
        refine x_goto.trans ?_
        refine (zrun_b (es := q_X11_isFull_56) rfl rfl).trans ?_
        exact x_zret.trans (tv_l (by decide +kernel))
noncomputable def g_X11_isFull {ρ : Type} (σ : zH) (av : List zAV) (q : zH → zAV → Option ρ) : Option ρ := match av with
  | [.inr (.inr (.inl (11, 0))), .inl xa1, .inl xa2] => (d_X11_isFull σ xa1 xa2).bind fun p => q p.1 (vI p.2)
  | _ => none
theorem gr_X11_isFull {ρ : Type} (σ : zH) (xa1 : Int32) (xa2 : Int32) (q : zH → zAV → Option ρ) : g_X11_isFull σ [vR 11 0, vI xa1, vI xa2] q = (d_X11_isFull σ xa1 xa2).bind fun p => q p.1 (vI p.2) := rfl
theorem c_X11_isFull {ρ : Type} {X : zX} (hX : zHX X) {σ : zH} {av : List zAV} {q : zH → zAV → Option ρ} {r : ρ} (h : g_X11_isFull σ av q = some r) (hv : ∀ a ∈ av, zval X a) : zcon X 156 σ av q r := by
  unfold g_X11_isFull at h
  split at h
  · exact zcon_I (n := 156) (ml := 3) (rc := 1) (st := 0) (kd := 11) (np := 2) (by decide +kernel) (by decide) ⟨_, _, rfl, rfl⟩ (Nat.le_of_ble_eq_true rfl) hv h (fun y h1 => (zin_ok (hy_X11_isFull hX) bk_X11_isFull (fun t f hf => by
      by_cases e48 : t = 48
      · rw [if_pos e48] at hf; subst e48; cases hf; exact (s_X11_isFull_48 hX)
      rw [if_neg e48] at hf
      cases hf) ((e_X11_isFull _ _ _).symm.trans h1)))
  · cases h
/-! SleepWavesModel.barracksClause(I)V -/
def q_X11_barracksClause_4 : List zEnt := zE 4 (.aload_n 0) 1 :: zEf 5 (.getfield 211) 3 11 31 179 (0, 0, 0) :: zE 8 (.istore_n 2) 1 :: zEk 9 (.iconst 0) 1 0 :: zE 10 (.istore_n 3) 1 :: [zE 11 .nop 0]
def q_X11_barracksClause_1 : List zEnt := zEc 1 (.invokevirtual 230) 3 139 1 119 1 :: q_X11_barracksClause_4
def q_X11_barracksClause_0 : List zEnt := zE 0 (.aload_n 0) 1 :: q_X11_barracksClause_1
def q_X11_barracksClause_30 : List zEnt := zEa 30 (.goto (-19)) 3 11 :: []
def q_X11_barracksClause_27 : List zEnt := zEk 27 (.iinc 3 1) 3 1 :: q_X11_barracksClause_30
def q_X11_barracksClause_24 : List zEnt := zEa 24 (.ifCond .ne 9) 3 33 :: q_X11_barracksClause_27
def q_X11_barracksClause_21 : List zEnt := zEc 21 (.invokevirtual 233) 3 141 2 122 0 :: q_X11_barracksClause_24
def q_X11_barracksClause_18 : List zEnt := zEc 18 (.invokestatic 313) 3 136 1 121 0 :: q_X11_barracksClause_21
def q_X11_barracksClause_16 : List zEnt := zE 16 (.aload_n 0) 1 :: zE 17 (.iload_n 3) 1 :: q_X11_barracksClause_18
def q_X11_barracksClause_13 : List zEnt := zEa 13 (.if_icmp .ge 20) 3 33 :: q_X11_barracksClause_16
def q_X11_barracksClause_11 : List zEnt := zE 11 (.iload_n 3) 1 :: zEk 12 (.iconst 4) 1 4 :: q_X11_barracksClause_13
def q_X11_barracksClause_44 : List zEnt := zE 44 .return_ 1 :: []
def q_X11_barracksClause_41 : List zEnt := zEc 41 (.invokevirtual 246) 3 137 3 123 1 :: q_X11_barracksClause_44
def q_X11_barracksClause_38 : List zEnt := zE 38 (.aload_n 0) 1 :: zEk 39 (.iconst 0) 1 0 :: zE 40 (.iload_n 2) 1 :: q_X11_barracksClause_41
def q_X11_barracksClause_35 : List zEnt := zEa 35 (.if_icmp .ne 10) 3 45 :: q_X11_barracksClause_38
def q_X11_barracksClause_33 : List zEnt := zE 33 (.iload_n 3) 1 :: zEk 34 (.iconst 4) 1 4 :: q_X11_barracksClause_35
def q_X11_barracksClause_60 : List zEnt := zE 60 .return_ 1 :: []
def q_X11_barracksClause_57 : List zEnt := zEc 57 (.invokevirtual 246) 3 137 3 123 1 :: q_X11_barracksClause_60
def q_X11_barracksClause_54 : List zEnt := zE 54 (.aload_n 0) 1 :: zEk 55 (.iconst 4) 1 4 :: zE 56 (.iload_n 2) 1 :: q_X11_barracksClause_57
def q_X11_barracksClause_51 : List zEnt := zEa 51 (.ifCond .eq 10) 3 61 :: q_X11_barracksClause_54
def q_X11_barracksClause_48 : List zEnt := zEc 48 (.invokevirtual 316) 3 156 3 124 0 :: q_X11_barracksClause_51
def q_X11_barracksClause_45 : List zEnt := zE 45 (.aload_n 0) 1 :: zE 46 (.iload_n 3) 1 :: zE 47 (.iload_n 1) 1 :: q_X11_barracksClause_48
def q_X11_barracksClause_82 : List zEnt := zE 82 .return_ 1 :: []
def q_X11_barracksClause_79 : List zEnt := zEc 79 (.invokevirtual 319) 3 155 2 125 1 :: q_X11_barracksClause_82
def q_X11_barracksClause_77 : List zEnt := zE 77 (.aload_n 0) 1 :: zE 78 (.iload_n 3) 1 :: q_X11_barracksClause_79
def q_X11_barracksClause_74 : List zEnt := zEf 74 (.putfield 211) 3 11 31 179 (0, 0, 0) :: q_X11_barracksClause_77
def q_X11_barracksClause_70 : List zEnt := zEc 70 (.invokevirtual 222) 3 9000 0 1373 0 :: zE 73 .iadd 1 :: q_X11_barracksClause_74
def q_X11_barracksClause_67 : List zEnt := zEc 67 (.invokestatic 313) 3 136 1 121 0 :: q_X11_barracksClause_70
def q_X11_barracksClause_61 : List zEnt := zE 61 (.aload_n 0) 1 :: zE 62 .dup 1 :: zEf 63 (.getfield 211) 3 11 31 179 (0, 0, 0) :: zE 66 (.iload_n 3) 1 :: q_X11_barracksClause_67
def b_X11_barracksClause : List (Nat × List zEnt) := [(0, q_X11_barracksClause_0), (11, q_X11_barracksClause_11), (33, q_X11_barracksClause_33), (45, q_X11_barracksClause_45), (61, q_X11_barracksClause_61)]
theorem bk_X11_barracksClause : zchB 157 b_X11_barracksClause = true := by decide +kernel
noncomputable def cc_X11_barracksClause {ρ : Type} : Nat → zH → List zAV → (zH → zAV → Option ρ) → Option ρ := fun n σ av q => if n = 139 then g_X11_blanks σ av q else if n = 136 then g_X11_barracksWord σ av q else if n = 141 then g_X11_stood σ av q else if n = 137 then g_X11_fails σ av q else if n = 156 then g_X11_isFull σ av q else if n = 155 then g_X11_barracksPart σ av q else none
theorem cs_X11_barracksClause {ρ : Type} {X : zX} (hX : zHX X) : zCS X (cc_X11_barracksClause (ρ := ρ)) := by
  intro n σ av q r h hv
  unfold cc_X11_barracksClause at h
  by_cases e_X11_blanks : n = 139
  · rw [if_pos e_X11_blanks] at h
    subst e_X11_blanks
    exact c_X11_blanks hX h hv
  rw [if_neg e_X11_blanks] at h
  by_cases e_X11_barracksWord : n = 136
  · rw [if_pos e_X11_barracksWord] at h
    subst e_X11_barracksWord
    exact c_X11_barracksWord hX h hv
  rw [if_neg e_X11_barracksWord] at h
  by_cases e_X11_stood : n = 141
  · rw [if_pos e_X11_stood] at h
    subst e_X11_stood
    exact c_X11_stood hX h hv
  rw [if_neg e_X11_stood] at h
  by_cases e_X11_fails : n = 137
  · rw [if_pos e_X11_fails] at h
    subst e_X11_fails
    exact c_X11_fails hX h hv
  rw [if_neg e_X11_fails] at h
  by_cases e_X11_isFull : n = 156
  · rw [if_pos e_X11_isFull] at h
    subst e_X11_isFull
    exact c_X11_isFull hX h hv
  rw [if_neg e_X11_isFull] at h
  by_cases e_X11_barracksPart : n = 155
  · rw [if_pos e_X11_barracksPart] at h
    subst e_X11_barracksPart
    exact c_X11_barracksPart hX h hv
  rw [if_neg e_X11_barracksPart] at h
  cases h
theorem cl_X11_barracksClause_X11_blanks {ρ : Type} (σ : zH) (av : List zAV) (q : zH → zAV → Option ρ) : cc_X11_barracksClause 139 σ av q = g_X11_blanks σ av q := rfl
theorem cl_X11_barracksClause_X11_barracksWord {ρ : Type} (σ : zH) (av : List zAV) (q : zH → zAV → Option ρ) : cc_X11_barracksClause 136 σ av q = g_X11_barracksWord σ av q := rfl
theorem cl_X11_barracksClause_X11_stood {ρ : Type} (σ : zH) (av : List zAV) (q : zH → zAV → Option ρ) : cc_X11_barracksClause 141 σ av q = g_X11_stood σ av q := rfl
theorem cl_X11_barracksClause_X11_fails {ρ : Type} (σ : zH) (av : List zAV) (q : zH → zAV → Option ρ) : cc_X11_barracksClause 137 σ av q = g_X11_fails σ av q := rfl
theorem cl_X11_barracksClause_X11_isFull {ρ : Type} (σ : zH) (av : List zAV) (q : zH → zAV → Option ρ) : cc_X11_barracksClause 156 σ av q = g_X11_isFull σ av q := rfl
theorem cl_X11_barracksClause_X11_barracksPart {ρ : Type} (σ : zH) (av : List zAV) (q : zH → zAV → Option ρ) : cc_X11_barracksClause 155 σ av q = g_X11_barracksPart σ av q := rfl
theorem hy_X11_barracksClause {ρ : Type} {X : zX} (hX : zHX X) : zHY X 157 (cc_X11_barracksClause (ρ := ρ)) := zHX.hY hX (cs_X11_barracksClause hX) (zmok_all 157 (by decide))
def gl_X11_barracksClause_11 {ρ : Type} (f : zH → Int32 → Int32 → Int32 → Option ρ) (σ : zH) (L st : List zAV) : Option ρ := match L, st with
  | [.inr (.inr (.inl (11, 0))), .inl x1, .inl x2, .inl x3], [] => f σ x1 x2 x3
  | _, _ => none
def gl_X11_barracksClause_33 {ρ : Type} (f : zH → Int32 → Int32 → Int32 → Option ρ) (σ : zH) (L st : List zAV) : Option ρ := match L, st with
  | [.inr (.inr (.inl (11, 0))), .inl x1, .inl x2, .inl x3], [] => f σ x1 x2 x3
  | _, _ => none
theorem glr_X11_barracksClause_11 {ρ : Type} (f : zH → Int32 → Int32 → Int32 → Option ρ) (σ : zH) (x1 : Int32) (x2 : Int32) (x3 : Int32)  : gl_X11_barracksClause_11 f σ [vR 11 0, vI x1, vI x2, vI x3] [] = f σ x1 x2 x3 := rfl
theorem glr_X11_barracksClause_33 {ρ : Type} (f : zH → Int32 → Int32 → Int32 → Option ρ) (σ : zH) (x1 : Int32) (x2 : Int32) (x3 : Int32)  : gl_X11_barracksClause_33 f σ [vR 11 0, vI x1, vI x2, vI x3] [] = f σ x1 x2 x3 := rfl
theorem t_X11_barracksClause_0 {G : Nat → zH → List zAV → List zAV → Option zH} (es : List zEnt) (σ : zH) (x1 : Int32) (y2 : zAV) (y3 : zAV)  : zev cc_X11_barracksClause G 9 krV (zE 0 (.aload_n 0) 1 :: es) σ [vR 11 0, vI x1, y2, y3] [] = zev cc_X11_barracksClause G 9 krV es σ [vR 11 0, vI x1, y2, y3] [vR 11 0] := rfl
theorem t_X11_barracksClause_4 {G : Nat → zH → List zAV → List zAV → Option zH} (es : List zEnt) (σ : zH) (x1 : Int32) (y2 : zAV) (y3 : zAV) (w9 : Int32) : zev cc_X11_barracksClause G 9 krV (zE 4 (.aload_n 0) 1 :: zEf 5 (.getfield 211) 3 11 31 179 (0, 0, 0) :: zE 8 (.istore_n 2) 1 :: zEk 9 (.iconst 0) 1 w9 :: zE 10 (.istore_n 3) 1 :: es) σ [vR 11 0, vI x1, y2, y3] [] = zev cc_X11_barracksClause G 9 krV es σ [vR 11 0, vI x1, vI (σ.1 11 0 31), vI w9] [] := rfl
theorem t_X11_barracksClause_11 {G : Nat → zH → List zAV → List zAV → Option zH} (es : List zEnt) (σ : zH) (x1 : Int32) (x2 : Int32) (x3 : Int32)  (w12 : Int32) : zev cc_X11_barracksClause G 9 krV (zE 11 (.iload_n 3) 1 :: zEk 12 (.iconst 4) 1 w12 :: es) σ [vR 11 0, vI x1, vI x2, vI x3] [] = zev cc_X11_barracksClause G 9 krV es σ [vR 11 0, vI x1, vI x2, vI x3] [vI w12, vI x3] := rfl
theorem t_X11_barracksClause_16 {G : Nat → zH → List zAV → List zAV → Option zH} (es : List zEnt) (σ : zH) (x1 : Int32) (x2 : Int32) (x3 : Int32)   : zev cc_X11_barracksClause G 9 krV (zE 16 (.aload_n 0) 1 :: zE 17 (.iload_n 3) 1 :: es) σ [vR 11 0, vI x1, vI x2, vI x3] [] = zev cc_X11_barracksClause G 9 krV es σ [vR 11 0, vI x1, vI x2, vI x3] [vI x3, vR 11 0] := rfl
theorem t_X11_barracksClause_27 {G : Nat → zH → List zAV → List zAV → Option zH} (es : List zEnt) (σ : zH) (x1 : Int32) (x2 : Int32) (x3 : Int32)  (w27 : Int32) : zev cc_X11_barracksClause G 9 krV (zEk 27 (.iinc 3 1) 3 w27 :: es) σ [vR 11 0, vI x1, vI x2, vI x3] [] = zev cc_X11_barracksClause G 9 krV es σ [vR 11 0, vI x1, vI x2, vI (x3 + w27)] [] := rfl
theorem t_X11_barracksClause_33 {G : Nat → zH → List zAV → List zAV → Option zH} (es : List zEnt) (σ : zH) (x1 : Int32) (x2 : Int32) (x3 : Int32)  (w34 : Int32) : zev cc_X11_barracksClause G 9 krV (zE 33 (.iload_n 3) 1 :: zEk 34 (.iconst 4) 1 w34 :: es) σ [vR 11 0, vI x1, vI x2, vI x3] [] = zev cc_X11_barracksClause G 9 krV es σ [vR 11 0, vI x1, vI x2, vI x3] [vI w34, vI x3] := rfl
theorem t_X11_barracksClause_38 {G : Nat → zH → List zAV → List zAV → Option zH} (es : List zEnt) (σ : zH) (x2 : Int32) (y1 : zAV) (y3 : zAV) (w39 : Int32) : zev cc_X11_barracksClause G 9 krV (zE 38 (.aload_n 0) 1 :: zEk 39 (.iconst 0) 1 w39 :: zE 40 (.iload_n 2) 1 :: es) σ [vR 11 0, y1, vI x2, y3] [] = zev cc_X11_barracksClause G 9 krV es σ [vR 11 0, y1, vI x2, y3] [vI x2, vI w39, vR 11 0] := rfl
theorem t_X11_barracksClause_45 {G : Nat → zH → List zAV → List zAV → Option zH} (es : List zEnt) (σ : zH) (x1 : Int32) (x2 : Int32) (x3 : Int32)   : zev cc_X11_barracksClause G 9 krV (zE 45 (.aload_n 0) 1 :: zE 46 (.iload_n 3) 1 :: zE 47 (.iload_n 1) 1 :: es) σ [vR 11 0, vI x1, vI x2, vI x3] [] = zev cc_X11_barracksClause G 9 krV es σ [vR 11 0, vI x1, vI x2, vI x3] [vI x1, vI x3, vR 11 0] := rfl
theorem t_X11_barracksClause_54 {G : Nat → zH → List zAV → List zAV → Option zH} (es : List zEnt) (σ : zH) (x2 : Int32) (y1 : zAV) (y3 : zAV) (w55 : Int32) : zev cc_X11_barracksClause G 9 krV (zE 54 (.aload_n 0) 1 :: zEk 55 (.iconst 4) 1 w55 :: zE 56 (.iload_n 2) 1 :: es) σ [vR 11 0, y1, vI x2, y3] [] = zev cc_X11_barracksClause G 9 krV es σ [vR 11 0, y1, vI x2, y3] [vI x2, vI w55, vR 11 0] := rfl
theorem t_X11_barracksClause_61 {G : Nat → zH → List zAV → List zAV → Option zH} (es : List zEnt) (σ : zH) (x3 : Int32) (y1 : zAV) (y2 : zAV)  : zev cc_X11_barracksClause G 9 krV (zE 61 (.aload_n 0) 1 :: zE 62 .dup 1 :: zEf 63 (.getfield 211) 3 11 31 179 (0, 0, 0) :: zE 66 (.iload_n 3) 1 :: es) σ [vR 11 0, y1, y2, vI x3] [] = zev cc_X11_barracksClause G 9 krV es σ [vR 11 0, y1, y2, vI x3] [vI x3, vI (σ.1 11 0 31), vR 11 0] := rfl
theorem t_X11_barracksClause_70 {G : Nat → zH → List zAV → List zAV → Option zH} (es : List zEnt) (σ : zH) (x3 : Int32) (xs1 : Int32) (is2 : Nat) (y1 : zAV) (y2 : zAV)  : zev cc_X11_barracksClause G 9 krV (zEc 70 (.invokevirtual 222) 3 9000 0 1373 0 :: zE 73 .iadd 1 :: es) σ [vR 11 0, y1, y2, vI x3] [vR 200 is2, vI xs1, vR 11 0] = zev cc_X11_barracksClause G 9 krV es σ [vR 11 0, y1, y2, vI x3] [vI (xs1 + (Int32.ofNat (zsN is2))), vR 11 0] := rfl
theorem t_X11_barracksClause_77 {G : Nat → zH → List zAV → List zAV → Option zH} (es : List zEnt) (σ : zH) (x3 : Int32) (y1 : zAV) (y2 : zAV)  : zev cc_X11_barracksClause G 9 krV (zE 77 (.aload_n 0) 1 :: zE 78 (.iload_n 3) 1 :: es) σ [vR 11 0, y1, y2, vI x3] [] = zev cc_X11_barracksClause G 9 krV es σ [vR 11 0, y1, y2, vI x3] [vI x3, vR 11 0] := rfl
noncomputable def k_X11_barracksClause_11 (c33 : zH → Int32 → Int32 → Int32 → Option zH) : Nat → zH → Int32 → Int32 → Int32 → Option zH
  | 0, _, _, _, _ => none
  | n + 1, σ, x1, x2, x3 =>
    if x3 < (4 : Int32) then
      (d_X11_barracksWord σ x3).bind fun p1 =>
      (d_X11_stood p1.1 p1.2).bind fun p2 =>
      if p2.2 = 0 then
        (k_X11_barracksClause_11 c33 n) p2.1 x1 x2 (x3 + (1 : Int32))
      else
        c33 p2.1 x1 x2 x3
    else
      c33 σ x1 x2 x3
theorem e_X11_barracksClause_11 (c33 : zH → Int32 → Int32 → Int32 → Option zH) (n : Nat) (σ : zH) (x1 : Int32) (x2 : Int32) (x3 : Int32)  : k_X11_barracksClause_11 c33 (n + 1) σ x1 x2 x3 = zin cc_X11_barracksClause (fun t => if t = 11 then some (gl_X11_barracksClause_11 (k_X11_barracksClause_11 c33 n)) else if t = 33 then some (gl_X11_barracksClause_33 c33) else none) 9 krV b_X11_barracksClause 11 σ [vR 11 0, vI x1, vI x2, vI x3] [] := by
  rw [k_X11_barracksClause_11]
  refine Eq.symm ((zin_b (es := q_X11_barracksClause_11) rfl).trans ?_)
  refine (t_X11_barracksClause_11 _ _ _ _ _ _).trans ?_
  refine x_icmp.trans (pif_ge ?_ ?_)
  · exact (zrun_c rfl).trans (glr_X11_barracksClause_33 _ _ _ _ _)
  · refine (t_X11_barracksClause_16 _ _ _ _ _).trans ?_
    refine (x_callS rfl rfl rfl rfl).trans ((cl_X11_barracksClause_X11_barracksWord _ _ _).trans ((gr_X11_barracksWord _ _ _).trans (pbd fun _ => ?_)))
    refine (x_callV rfl rfl rfl rfl).trans ((cl_X11_barracksClause_X11_stood _ _ _).trans ((gr_X11_stood _ _ _).trans (pbd fun _ => ?_)))
    refine x_if.trans (pif_ne ?_ ?_)
    · exact (zrun_c rfl).trans (glr_X11_barracksClause_33 _ _ _ _ _)
    · refine (t_X11_barracksClause_27 _ _ _ _ _ _).trans ?_
      refine x_goto.trans ?_
      exact (zrun_c rfl).trans (glr_X11_barracksClause_11 _ _ _ _ _)
theorem s_X11_barracksClause_11 {X : zX} (hX : zHX X) {c33 : zH → Int32 → Int32 → Int32 → Option zH} (h33 : ∀ σ L st r, gl_X11_barracksClause_33 c33 σ L st = some r → zGW X 157 krV 33 σ L st r) : ∀ n σ L st r, gl_X11_barracksClause_11 (k_X11_barracksClause_11 c33 n) σ L st = some r → zGW X 157 krV 11 σ L st r := by
  intro n
  induction n with
  | zero =>
    intro σ L st r h
    unfold gl_X11_barracksClause_11 at h
    split at h <;> cases h
  | succ n ih =>
    intro σ L st r h
    unfold gl_X11_barracksClause_11 at h
    split at h
    · exact zin_ok (hy_X11_barracksClause hX) bk_X11_barracksClause (fun t f hf => by
      by_cases e11 : t = 11
      · rw [if_pos e11] at hf; subst e11; cases hf; exact ih
      rw [if_neg e11] at hf
      by_cases e33 : t = 33
      · rw [if_pos e33] at hf; subst e33; cases hf; exact h33
      rw [if_neg e33] at hf
      cases hf) ((e_X11_barracksClause_11 _ _ _ _ _ _).symm.trans h)
    · cases h
noncomputable def j_X11_barracksClause_33  (σ : zH) (x1 : Int32) (x2 : Int32) (x3 : Int32) : Option zH :=
  if x3 = (4 : Int32) then
    (d_X11_fails σ (0 : Int32) x2).bind fun σ6 =>
    some σ6
  else
    (d_X11_isFull σ x3 x1).bind fun p1 =>
    if p1.2 = 0 then
      (d_X11_barracksWord p1.1 x3).bind fun p2 =>
      zlet (uI p2.1 11 0 31 ((p1.1.1 11 0 31) + (Int32.ofNat (zsN p2.2)))) fun σ3 =>
      (d_X11_barracksPart σ3 x3).bind fun σ4 =>
      some σ4
    else
      (d_X11_fails p1.1 (4 : Int32) x2).bind fun σ5 =>
      some σ5
theorem e_X11_barracksClause_33  (σ : zH) (x1 : Int32) (x2 : Int32) (x3 : Int32)  : j_X11_barracksClause_33 σ x1 x2 x3 = zin cc_X11_barracksClause (fun t => none) 9 krV b_X11_barracksClause 33 σ [vR 11 0, vI x1, vI x2, vI x3] [] := by
  unfold j_X11_barracksClause_33
  refine Eq.symm ((zin_b (es := q_X11_barracksClause_33) rfl).trans ?_)
  refine (t_X11_barracksClause_33 _ _ _ _ _ _).trans ?_
  refine x_icmp.trans (pif_ne ?_ ?_)
  · refine (zrun_b (es := q_X11_barracksClause_45) rfl rfl).trans ?_
    refine (t_X11_barracksClause_45 _ _ _ _ _).trans ?_
    refine (x_callV rfl rfl rfl rfl).trans ((cl_X11_barracksClause_X11_isFull _ _ _).trans ((gr_X11_isFull _ _ _ _).trans (pbd fun _ => ?_)))
    refine x_if.trans (pif_eq ?_ ?_)
    · refine (zrun_b (es := q_X11_barracksClause_61) rfl rfl).trans ?_
      refine (t_X11_barracksClause_61 _ _ _ _ _).trans ?_
      refine (x_callS rfl rfl rfl rfl).trans ((cl_X11_barracksClause_X11_barracksWord _ _ _).trans ((gr_X11_barracksWord _ _ _).trans (pbd fun _ => ?_)))
      refine (t_X11_barracksClause_70 _ _ _ _ _ _ _).trans ?_
      refine x_pf0.trans (plt fun _ => ?_)
      refine (t_X11_barracksClause_77 _ _ _ _ _).trans ?_
      refine (x_callV rfl rfl rfl rfl).trans ((cl_X11_barracksClause_X11_barracksPart _ _ _).trans ((gr_X11_barracksPart _ _ _).trans (pbd fun _ => ?_)))
      exact x_vret
    · refine (t_X11_barracksClause_54 _ _ _ _ _ _).trans ?_
      refine (x_callV rfl rfl rfl rfl).trans ((cl_X11_barracksClause_X11_fails _ _ _).trans ((gr_X11_fails _ _ _ _).trans (pbd fun _ => ?_)))
      exact x_vret
  · refine (t_X11_barracksClause_38 _ _ _ _ _ _).trans ?_
    refine (x_callV rfl rfl rfl rfl).trans ((cl_X11_barracksClause_X11_fails _ _ _).trans ((gr_X11_fails _ _ _ _).trans (pbd fun _ => ?_)))
    exact x_vret
theorem s_X11_barracksClause_33 {X : zX} (hX : zHX X)   : ∀ σ L st r, gl_X11_barracksClause_33 j_X11_barracksClause_33 σ L st = some r → zGW X 157 krV 33 σ L st r := by
  intro σ L st r h
  unfold gl_X11_barracksClause_33 at h
  split at h
  · exact zin_ok (hy_X11_barracksClause hX) bk_X11_barracksClause (fun t f hf => by
    cases hf) ((e_X11_barracksClause_33 _ _ _ _).symm.trans h)
  · cases h
noncomputable def d_X11_barracksClause (σ : zH) (xa1 : Int32) : Option zH :=
  (d_X11_blanks σ).bind fun σ1 =>
  (k_X11_barracksClause_11 j_X11_barracksClause_33 zN) σ1 xa1 (σ1.1 11 0 31) (0 : Int32)
theorem e_X11_barracksClause (σ : zH) (xa1 : Int32) : d_X11_barracksClause σ xa1 = zin cc_X11_barracksClause (fun t => if t = 11 then some (gl_X11_barracksClause_11 (k_X11_barracksClause_11 j_X11_barracksClause_33 zN)) else none) 9 krV b_X11_barracksClause 0 σ [vR 11 0, vI xa1, vU, vU] [] := by
  unfold d_X11_barracksClause
  refine Eq.symm ((zin_b (es := q_X11_barracksClause_0) rfl).trans ?_)
  refine (t_X11_barracksClause_0 _ _ _ _ _).trans ?_
  refine (x_callV rfl rfl rfl rfl).trans ((cl_X11_barracksClause_X11_blanks _ _ _).trans ((gr_X11_blanks _ _).trans (pbd fun _ => ?_)))
  refine (t_X11_barracksClause_4 _ _ _ _ _ _).trans ?_
  refine x_cut.trans ?_
  exact (zrun_c rfl).trans (glr_X11_barracksClause_11 _ _ _ _ _)
noncomputable def g_X11_barracksClause {ρ : Type} (σ : zH) (av : List zAV) (q : zH → zAV → Option ρ) : Option ρ := match av with
  | [.inr (.inr (.inl (11, 0))), .inl xa1] => (d_X11_barracksClause σ xa1).bind fun σ => q σ vU
  | _ => none
theorem gr_X11_barracksClause {ρ : Type} (σ : zH) (xa1 : Int32) (q : zH → zAV → Option ρ) : g_X11_barracksClause σ [vR 11 0, vI xa1] q = (d_X11_barracksClause σ xa1).bind fun σ => q σ vU := rfl
theorem c_X11_barracksClause {ρ : Type} {X : zX} (hX : zHX X) {σ : zH} {av : List zAV} {q : zH → zAV → Option ρ} {r : ρ} (h : g_X11_barracksClause σ av q = some r) (hv : ∀ a ∈ av, zval X a) : zcon X 157 σ av q r := by
  unfold g_X11_barracksClause at h
  split at h
  · exact zcon_V (n := 157) (ml := 4) (rc := 9) (st := 0) (kd := 11) (np := 1) (by decide +kernel) rfl ⟨_, _, rfl, rfl⟩ (Nat.le_of_ble_eq_true rfl) hv h (fun y h1 => (zin_ok (hy_X11_barracksClause hX) bk_X11_barracksClause (fun t f hf => by
      by_cases e11 : t = 11
      · rw [if_pos e11] at hf; subst e11; cases hf; exact ((fun σ L st r h => s_X11_barracksClause_11 hX (s_X11_barracksClause_33 hX) zN σ L st r h))
      rw [if_neg e11] at hf
      cases hf) ((e_X11_barracksClause _ _).symm.trans h1)))
  · cases h
/-! SleepWavesModel.lay([I[I)V -/
def q_X11_lay_0 : List zEnt := zEk 0 (.iconst 0) 1 0 :: zE 1 (.istore_n 2) 1 :: [zE 2 .nop 0]
def q_X11_lay_17 : List zEnt := zEa 17 (.goto (-15)) 3 2 :: []
def q_X11_lay_14 : List zEnt := zEk 14 (.iinc 2 1) 3 1 :: q_X11_lay_17
def q_X11_lay_13 : List zEnt := zE 13 .iastore 1 :: q_X11_lay_14
def q_X11_lay_12 : List zEnt := zE 12 .iaload 1 :: q_X11_lay_13
def q_X11_lay_8 : List zEnt := zE 8 (.aload_n 1) 1 :: zE 9 (.iload_n 2) 1 :: zE 10 (.aload_n 0) 1 :: zE 11 (.iload_n 2) 1 :: q_X11_lay_12
def q_X11_lay_5 : List zEnt := zEa 5 (.if_icmp .ge 15) 3 20 :: q_X11_lay_8
def q_X11_lay_4 : List zEnt := zE 4 .arraylength 1 :: q_X11_lay_5
def q_X11_lay_2 : List zEnt := zE 2 (.iload_n 2) 1 :: zE 3 (.aload_n 0) 1 :: q_X11_lay_4
def q_X11_lay_20 : List zEnt := zE 20 .return_ 1 :: []
def b_X11_lay : List (Nat × List zEnt) := [(0, q_X11_lay_0), (2, q_X11_lay_2), (20, q_X11_lay_20)]
theorem bk_X11_lay : zchB 158 b_X11_lay = true := by decide +kernel
theorem hy_X11_lay {ρ : Type} {X : zX} (hX : zHX X) : zHY X 158 (zc0 (ρ := ρ)) := zHX.hY hX (zc0_ok X) (zmok_all 158 (by decide))
def gl_X11_lay_2 {ρ : Type} (f : zH → Nat → Nat → Nat → Nat → Int32 → Option ρ) (σ : zH) (L st : List zAV) : Option ρ := match L, st with
  | [.inr (.inr (.inl (kd0, i0))), .inr (.inr (.inl (kd1, i1))), .inl x2], [] => f σ kd0 i0 kd1 i1 x2
  | _, _ => none
theorem glr_X11_lay_2 {ρ : Type} (f : zH → Nat → Nat → Nat → Nat → Int32 → Option ρ) (σ : zH) (kd0 : Nat) (i0 : Nat) (kd1 : Nat) (i1 : Nat) (x2 : Int32)  : gl_X11_lay_2 f σ [vR kd0 i0, vR kd1 i1, vI x2] [] = f σ kd0 i0 kd1 i1 x2 := rfl
theorem t_X11_lay_0 {G : Nat → zH → List zAV → List zAV → Option zH} (es : List zEnt) (σ : zH) (kd0 : Nat) (i0 : Nat) (kd1 : Nat) (i1 : Nat) (y2 : zAV) (w0 : Int32) : zev zc0 G 9 krV (zEk 0 (.iconst 0) 1 w0 :: zE 1 (.istore_n 2) 1 :: es) σ [vR kd0 i0, vR kd1 i1, y2] [] = zev zc0 G 9 krV es σ [vR kd0 i0, vR kd1 i1, vI w0] [] := rfl
theorem t_X11_lay_2 {G : Nat → zH → List zAV → List zAV → Option zH} (es : List zEnt) (σ : zH) (kd0 : Nat) (i0 : Nat) (kd1 : Nat) (i1 : Nat) (x2 : Int32)   : zev zc0 G 9 krV (zE 2 (.iload_n 2) 1 :: zE 3 (.aload_n 0) 1 :: es) σ [vR kd0 i0, vR kd1 i1, vI x2] [] = zev zc0 G 9 krV es σ [vR kd0 i0, vR kd1 i1, vI x2] [vR kd0 i0, vI x2] := rfl
theorem t_X11_lay_8 {G : Nat → zH → List zAV → List zAV → Option zH} (es : List zEnt) (σ : zH) (kd0 : Nat) (i0 : Nat) (kd1 : Nat) (i1 : Nat) (x2 : Int32)   : zev zc0 G 9 krV (zE 8 (.aload_n 1) 1 :: zE 9 (.iload_n 2) 1 :: zE 10 (.aload_n 0) 1 :: zE 11 (.iload_n 2) 1 :: es) σ [vR kd0 i0, vR kd1 i1, vI x2] [] = zev zc0 G 9 krV es σ [vR kd0 i0, vR kd1 i1, vI x2] [vI x2, vR kd0 i0, vI x2, vR kd1 i1] := rfl
theorem t_X11_lay_14 {G : Nat → zH → List zAV → List zAV → Option zH} (es : List zEnt) (σ : zH) (kd0 : Nat) (i0 : Nat) (kd1 : Nat) (i1 : Nat) (x2 : Int32)  (w14 : Int32) : zev zc0 G 9 krV (zEk 14 (.iinc 2 1) 3 w14 :: es) σ [vR kd0 i0, vR kd1 i1, vI x2] [] = zev zc0 G 9 krV es σ [vR kd0 i0, vR kd1 i1, vI (x2 + w14)] [] := rfl
noncomputable def k_X11_lay_2  : Nat → zH → Nat → Nat → Nat → Nat → Int32 → Option zH
  | 0, _, _, _, _, _, _ => none
  | n + 1, σ, kd0, i0, kd1, i1, x2 =>
    gd (Nat.ble (aT kd0) 6) <| if x2 < (Int32.ofNat (aN kd0)) then
      gd (aT kd0 == 0) <| ix x2 (aN kd0) fun j1 =>
      gd (aT kd1 == 0) <| ix x2 (aN kd1) fun j3 =>
      zlet (uI σ kd1 i1 j3 (σ.1 kd0 i0 j1)) fun σ2 =>
      (k_X11_lay_2 n) σ2 kd0 i0 kd1 i1 (x2 + (1 : Int32))
    else
      some σ
theorem e_X11_lay_2  (n : Nat) (σ : zH) (kd0 : Nat) (i0 : Nat) (kd1 : Nat) (i1 : Nat) (x2 : Int32)  : k_X11_lay_2 (n + 1) σ kd0 i0 kd1 i1 x2 = zin zc0 (fun t => if t = 2 then some (gl_X11_lay_2 (k_X11_lay_2 n)) else none) 9 krV b_X11_lay 2 σ [vR kd0 i0, vR kd1 i1, vI x2] [] := by
  rw [k_X11_lay_2]
  refine Eq.symm ((zin_b (es := q_X11_lay_2) rfl).trans ?_)
  refine (t_X11_lay_2 _ _ _ _ _ _ _).trans ?_
  refine x_alP.trans (pgd ?_)
  refine x_icmp.trans (pif_ge ?_ ?_)
  · refine (zrun_b (es := q_X11_lay_20) rfl rfl).trans ?_
    exact x_vret
  · refine (t_X11_lay_8 _ _ _ _ _ _ _).trans ?_
    refine x_iaP.trans (pgd (pix fun _ => ?_))
    refine x_iasP.trans (pgd (pix fun _ => plt fun _ => ?_))
    refine (t_X11_lay_14 _ _ _ _ _ _ _ _).trans ?_
    refine x_goto.trans ?_
    exact (zrun_c rfl).trans (glr_X11_lay_2 _ _ _ _ _ _ _)
theorem s_X11_lay_2 {X : zX} (hX : zHX X)   : ∀ n σ L st r, gl_X11_lay_2 (k_X11_lay_2 n) σ L st = some r → zGW X 158 krV 2 σ L st r := by
  intro n
  induction n with
  | zero =>
    intro σ L st r h
    unfold gl_X11_lay_2 at h
    split at h <;> cases h
  | succ n ih =>
    intro σ L st r h
    unfold gl_X11_lay_2 at h
    split at h
    · exact zin_ok (hy_X11_lay hX) bk_X11_lay (fun t f hf => by
      by_cases e2 : t = 2
      · rw [if_pos e2] at hf; subst e2; cases hf; exact ih
      rw [if_neg e2] at hf
      cases hf) ((e_X11_lay_2 _ _ _ _ _ _ _).symm.trans h)
    · cases h
noncomputable def d_X11_lay (σ : zH) (kda0 : Nat) (ia0 : Nat) (kda1 : Nat) (ia1 : Nat) : Option zH :=
  (k_X11_lay_2 zN) σ kda0 ia0 kda1 ia1 (0 : Int32)
theorem e_X11_lay (σ : zH) (kda0 : Nat) (ia0 : Nat) (kda1 : Nat) (ia1 : Nat) : d_X11_lay σ kda0 ia0 kda1 ia1 = zin zc0 (fun t => if t = 2 then some (gl_X11_lay_2 (k_X11_lay_2 zN)) else none) 9 krV b_X11_lay 0 σ [vR kda0 ia0, vR kda1 ia1, vU] [] := by
  unfold d_X11_lay
  refine Eq.symm ((zin_b (es := q_X11_lay_0) rfl).trans ?_)
  refine (t_X11_lay_0 _ _ _ _ _ _ _ _).trans ?_
  refine x_cut.trans ?_
  exact (zrun_c rfl).trans (glr_X11_lay_2 _ _ _ _ _ _ _)
noncomputable def g_X11_lay {ρ : Type} (σ : zH) (av : List zAV) (q : zH → zAV → Option ρ) : Option ρ := match av with
  | [.inr (.inr (.inl (kda0, ia0))), .inr (.inr (.inl (kda1, ia1)))] => (d_X11_lay σ kda0 ia0 kda1 ia1).bind fun σ => q σ vU
  | _ => none
theorem gr_X11_lay {ρ : Type} (σ : zH) (kda0 : Nat) (ia0 : Nat) (kda1 : Nat) (ia1 : Nat) (q : zH → zAV → Option ρ) : g_X11_lay σ [vR kda0 ia0, vR kda1 ia1] q = (d_X11_lay σ kda0 ia0 kda1 ia1).bind fun σ => q σ vU := rfl
theorem c_X11_lay {ρ : Type} {X : zX} (hX : zHX X) {σ : zH} {av : List zAV} {q : zH → zAV → Option ρ} {r : ρ} (h : g_X11_lay σ av q = some r) (hv : ∀ a ∈ av, zval X a) : zcon X 158 σ av q r := by
  unfold g_X11_lay at h
  split at h
  · exact zcon_V (n := 158) (ml := 3) (rc := 9) (st := 1) (kd := 11) (np := 2) (by decide +kernel) rfl rfl (Nat.le_of_ble_eq_true rfl) hv h (fun y h1 => (zin_ok (hy_X11_lay hX) bk_X11_lay (fun t f hf => by
      by_cases e2 : t = 2
      · rw [if_pos e2] at hf; subst e2; cases hf; exact ((fun σ L st r h => s_X11_lay_2 hX  zN σ L st r h))
      rw [if_neg e2] at hf
      cases hf) ((e_X11_lay _ _ _ _ _).symm.trans h1)))
  · cases h
/-! SleepWavesModel.goesOn()Z -/
def q_X11_goesOn_37 : List zEnt := zEc 37 (.invokevirtual 246) 3 137 3 123 1 :: [zE 40 .nop 0]
def q_X11_goesOn_31 : List zEnt := zE 31 (.aload_n 0) 1 :: zEk 32 (.iconst 0) 1 0 :: zE 33 (.aload_n 0) 1 :: zEf 34 (.getfield 211) 3 11 31 179 (0, 0, 0) :: q_X11_goesOn_37
def q_X11_goesOn_28 : List zEnt := zEa 28 (.if_icmp .eq 12) 3 40 :: q_X11_goesOn_31
def q_X11_goesOn_26 : List zEnt := zEk 26 (.bipush 59) 2 59 :: q_X11_goesOn_28
def q_X11_goesOn_23 : List zEnt := zEc 23 (.invokevirtual 214) 3 138 1 120 0 :: q_X11_goesOn_26
def q_X11_goesOn_22 : List zEnt := zE 22 (.aload_n 0) 1 :: q_X11_goesOn_23
def q_X11_goesOn_19 : List zEnt := zEa 19 (.if_icmp .ge 21) 3 40 :: q_X11_goesOn_22
def q_X11_goesOn_11 : List zEnt := zE 11 (.aload_n 0) 1 :: zEf 12 (.getfield 211) 3 11 31 179 (0, 0, 0) :: zE 15 (.aload_n 0) 1 :: zEf 16 (.getfield 181) 3 11 30 178 (0, 0, 0) :: q_X11_goesOn_19
def q_X11_goesOn_8 : List zEnt := zEa 8 (.ifCond .ne 32) 3 40 :: q_X11_goesOn_11
def q_X11_goesOn_4 : List zEnt := zE 4 (.aload_n 0) 1 :: zEf 5 (.getfield 208) 3 11 32 180 (0, 0, 0) :: q_X11_goesOn_8
def q_X11_goesOn_1 : List zEnt := zEc 1 (.invokevirtual 230) 3 139 1 119 1 :: q_X11_goesOn_4
def q_X11_goesOn_0 : List zEnt := zE 0 (.aload_n 0) 1 :: q_X11_goesOn_1
def q_X11_goesOn_59 : List zEnt := zEa 59 (.goto 4) 3 63 :: []
def q_X11_goesOn_58 : List zEnt := zEk 58 (.iconst 1) 1 1 :: q_X11_goesOn_59
def q_X11_goesOn_55 : List zEnt := zEa 55 (.if_icmp .ge 7) 3 62 :: q_X11_goesOn_58
def q_X11_goesOn_47 : List zEnt := zE 47 (.aload_n 0) 1 :: zEf 48 (.getfield 211) 3 11 31 179 (0, 0, 0) :: zE 51 (.aload_n 0) 1 :: zEf 52 (.getfield 181) 3 11 30 178 (0, 0, 0) :: q_X11_goesOn_55
def q_X11_goesOn_44 : List zEnt := zEa 44 (.ifCond .ne 18) 3 62 :: q_X11_goesOn_47
def q_X11_goesOn_40 : List zEnt := zE 40 (.aload_n 0) 1 :: zEf 41 (.getfield 208) 3 11 32 180 (0, 0, 0) :: q_X11_goesOn_44
def q_X11_goesOn_62 : List zEnt := zEk 62 (.iconst 0) 1 0 :: [zE 63 .nop 0]
def q_X11_goesOn_75 : List zEnt := zE 75 .ireturn 1 :: []
def q_X11_goesOn_74 : List zEnt := zE 74 (.iload_n 1) 1 :: q_X11_goesOn_75
def q_X11_goesOn_71 : List zEnt := zEf 71 (.putfield 211) 3 11 31 179 (0, 0, 0) :: q_X11_goesOn_74
def q_X11_goesOn_63 : List zEnt := zE 63 (.istore_n 1) 1 :: zE 64 (.aload_n 0) 1 :: zE 65 .dup 1 :: zEf 66 (.getfield 211) 3 11 31 179 (0, 0, 0) :: zEk 69 (.iconst 1) 1 1 :: zE 70 .iadd 1 :: q_X11_goesOn_71
def b_X11_goesOn : List (Nat × List zEnt) := [(0, q_X11_goesOn_0), (40, q_X11_goesOn_40), (62, q_X11_goesOn_62), (63, q_X11_goesOn_63)]
theorem bk_X11_goesOn : zchB 159 b_X11_goesOn = true := by decide +kernel
noncomputable def cc_X11_goesOn {ρ : Type} : Nat → zH → List zAV → (zH → zAV → Option ρ) → Option ρ := fun n σ av q => if n = 139 then g_X11_blanks σ av q else if n = 138 then g_X11_sign σ av q else if n = 137 then g_X11_fails σ av q else none
theorem cs_X11_goesOn {ρ : Type} {X : zX} (hX : zHX X) : zCS X (cc_X11_goesOn (ρ := ρ)) := by
  intro n σ av q r h hv
  unfold cc_X11_goesOn at h
  by_cases e_X11_blanks : n = 139
  · rw [if_pos e_X11_blanks] at h
    subst e_X11_blanks
    exact c_X11_blanks hX h hv
  rw [if_neg e_X11_blanks] at h
  by_cases e_X11_sign : n = 138
  · rw [if_pos e_X11_sign] at h
    subst e_X11_sign
    exact c_X11_sign hX h hv
  rw [if_neg e_X11_sign] at h
  by_cases e_X11_fails : n = 137
  · rw [if_pos e_X11_fails] at h
    subst e_X11_fails
    exact c_X11_fails hX h hv
  rw [if_neg e_X11_fails] at h
  cases h
theorem cl_X11_goesOn_X11_blanks {ρ : Type} (σ : zH) (av : List zAV) (q : zH → zAV → Option ρ) : cc_X11_goesOn 139 σ av q = g_X11_blanks σ av q := rfl
theorem cl_X11_goesOn_X11_sign {ρ : Type} (σ : zH) (av : List zAV) (q : zH → zAV → Option ρ) : cc_X11_goesOn 138 σ av q = g_X11_sign σ av q := rfl
theorem cl_X11_goesOn_X11_fails {ρ : Type} (σ : zH) (av : List zAV) (q : zH → zAV → Option ρ) : cc_X11_goesOn 137 σ av q = g_X11_fails σ av q := rfl
theorem hy_X11_goesOn {ρ : Type} {X : zX} (hX : zHX X) : zHY X 159 (cc_X11_goesOn (ρ := ρ)) := zHX.hY hX (cs_X11_goesOn hX) (zmok_all 159 (by decide))
def gl_X11_goesOn_40 {ρ : Type} (f : zH → Option ρ) (σ : zH) (L st : List zAV) : Option ρ := match L, st with
  | [.inr (.inr (.inl (11, 0))), _], [] => f σ
  | _, _ => none
def gl_X11_goesOn_62 {ρ : Type} (f : zH → Option ρ) (σ : zH) (L st : List zAV) : Option ρ := match L, st with
  | [.inr (.inr (.inl (11, 0))), _], [] => f σ
  | _, _ => none
def gl_X11_goesOn_63 {ρ : Type} (f : zH → Int32 → Option ρ) (σ : zH) (L st : List zAV) : Option ρ := match L, st with
  | [.inr (.inr (.inl (11, 0))), _], [.inl xs0] => f σ xs0
  | _, _ => none
theorem glr_X11_goesOn_40 {ρ : Type} (f : zH → Option ρ) (σ : zH)  (y1 : zAV) : gl_X11_goesOn_40 f σ [vR 11 0, y1] [] = f σ := rfl
theorem glr_X11_goesOn_62 {ρ : Type} (f : zH → Option ρ) (σ : zH)  (y1 : zAV) : gl_X11_goesOn_62 f σ [vR 11 0, y1] [] = f σ := rfl
theorem glr_X11_goesOn_63 {ρ : Type} (f : zH → Int32 → Option ρ) (σ : zH) (xs0 : Int32) (y1 : zAV) : gl_X11_goesOn_63 f σ [vR 11 0, y1] [vI xs0] = f σ xs0 := rfl
theorem t_X11_goesOn_0 {G : Nat → zH → List zAV → List zAV → Option (zH × Int32)} (es : List zEnt) (σ : zH)  (y1 : zAV)  : zev cc_X11_goesOn G 1 krI (zE 0 (.aload_n 0) 1 :: es) σ [vR 11 0, y1] [] = zev cc_X11_goesOn G 1 krI es σ [vR 11 0, y1] [vR 11 0] := rfl
theorem t_X11_goesOn_4 {G : Nat → zH → List zAV → List zAV → Option (zH × Int32)} (es : List zEnt) (σ : zH)  (y1 : zAV)  : zev cc_X11_goesOn G 1 krI (zE 4 (.aload_n 0) 1 :: zEf 5 (.getfield 208) 3 11 32 180 (0, 0, 0) :: es) σ [vR 11 0, y1] [] = zev cc_X11_goesOn G 1 krI es σ [vR 11 0, y1] [vI (σ.1 11 0 32)] := rfl
theorem t_X11_goesOn_11 {G : Nat → zH → List zAV → List zAV → Option (zH × Int32)} (es : List zEnt) (σ : zH)  (y1 : zAV)  : zev cc_X11_goesOn G 1 krI (zE 11 (.aload_n 0) 1 :: zEf 12 (.getfield 211) 3 11 31 179 (0, 0, 0) :: zE 15 (.aload_n 0) 1 :: zEf 16 (.getfield 181) 3 11 30 178 (0, 0, 0) :: es) σ [vR 11 0, y1] [] = zev cc_X11_goesOn G 1 krI es σ [vR 11 0, y1] [vI (σ.1 11 0 30), vI (σ.1 11 0 31)] := rfl
theorem t_X11_goesOn_22 {G : Nat → zH → List zAV → List zAV → Option (zH × Int32)} (es : List zEnt) (σ : zH)  (y1 : zAV)  : zev cc_X11_goesOn G 1 krI (zE 22 (.aload_n 0) 1 :: es) σ [vR 11 0, y1] [] = zev cc_X11_goesOn G 1 krI es σ [vR 11 0, y1] [vR 11 0] := rfl
theorem t_X11_goesOn_26 {G : Nat → zH → List zAV → List zAV → Option (zH × Int32)} (es : List zEnt) (σ : zH) (xs0 : Int32) (y1 : zAV) (w26 : Int32) : zev cc_X11_goesOn G 1 krI (zEk 26 (.bipush 59) 2 w26 :: es) σ [vR 11 0, y1] [vI xs0] = zev cc_X11_goesOn G 1 krI es σ [vR 11 0, y1] [vI w26, vI xs0] := rfl
theorem t_X11_goesOn_31 {G : Nat → zH → List zAV → List zAV → Option (zH × Int32)} (es : List zEnt) (σ : zH)  (y1 : zAV) (w32 : Int32) : zev cc_X11_goesOn G 1 krI (zE 31 (.aload_n 0) 1 :: zEk 32 (.iconst 0) 1 w32 :: zE 33 (.aload_n 0) 1 :: zEf 34 (.getfield 211) 3 11 31 179 (0, 0, 0) :: es) σ [vR 11 0, y1] [] = zev cc_X11_goesOn G 1 krI es σ [vR 11 0, y1] [vI (σ.1 11 0 31), vI w32, vR 11 0] := rfl
theorem t_X11_goesOn_40 {G : Nat → zH → List zAV → List zAV → Option (zH × Int32)} (es : List zEnt) (σ : zH)  (y1 : zAV)  : zev cc_X11_goesOn G 1 krI (zE 40 (.aload_n 0) 1 :: zEf 41 (.getfield 208) 3 11 32 180 (0, 0, 0) :: es) σ [vR 11 0, y1] [] = zev cc_X11_goesOn G 1 krI es σ [vR 11 0, y1] [vI (σ.1 11 0 32)] := rfl
theorem t_X11_goesOn_47 {G : Nat → zH → List zAV → List zAV → Option (zH × Int32)} (es : List zEnt) (σ : zH)  (y1 : zAV)  : zev cc_X11_goesOn G 1 krI (zE 47 (.aload_n 0) 1 :: zEf 48 (.getfield 211) 3 11 31 179 (0, 0, 0) :: zE 51 (.aload_n 0) 1 :: zEf 52 (.getfield 181) 3 11 30 178 (0, 0, 0) :: es) σ [vR 11 0, y1] [] = zev cc_X11_goesOn G 1 krI es σ [vR 11 0, y1] [vI (σ.1 11 0 30), vI (σ.1 11 0 31)] := rfl
theorem t_X11_goesOn_58 {G : Nat → zH → List zAV → List zAV → Option (zH × Int32)} (es : List zEnt) (σ : zH)  (y1 : zAV) (w58 : Int32) : zev cc_X11_goesOn G 1 krI (zEk 58 (.iconst 1) 1 w58 :: es) σ [vR 11 0, y1] [] = zev cc_X11_goesOn G 1 krI es σ [vR 11 0, y1] [vI w58] := rfl
theorem t_X11_goesOn_62 {G : Nat → zH → List zAV → List zAV → Option (zH × Int32)} (es : List zEnt) (σ : zH)  (y1 : zAV) (w62 : Int32) : zev cc_X11_goesOn G 1 krI (zEk 62 (.iconst 0) 1 w62 :: es) σ [vR 11 0, y1] [] = zev cc_X11_goesOn G 1 krI es σ [vR 11 0, y1] [vI w62] := rfl
theorem t_X11_goesOn_63 {G : Nat → zH → List zAV → List zAV → Option (zH × Int32)} (es : List zEnt) (σ : zH) (xs0 : Int32) (y1 : zAV) (w69 : Int32) : zev cc_X11_goesOn G 1 krI (zE 63 (.istore_n 1) 1 :: zE 64 (.aload_n 0) 1 :: zE 65 .dup 1 :: zEf 66 (.getfield 211) 3 11 31 179 (0, 0, 0) :: zEk 69 (.iconst 1) 1 w69 :: zE 70 .iadd 1 :: es) σ [vR 11 0, y1] [vI xs0] = zev cc_X11_goesOn G 1 krI es σ [vR 11 0, vI xs0] [vI ((σ.1 11 0 31) + w69), vR 11 0] := rfl
theorem t_X11_goesOn_74 {G : Nat → zH → List zAV → List zAV → Option (zH × Int32)} (es : List zEnt) (σ : zH) (x1 : Int32) (y0 : zAV)  : zev cc_X11_goesOn G 1 krI (zE 74 (.iload_n 1) 1 :: es) σ [y0, vI x1] [] = zev cc_X11_goesOn G 1 krI es σ [y0, vI x1] [vI x1] := rfl
noncomputable def j_X11_goesOn_63  (σ : zH) (xs0 : Int32) : Option (zH × Int32) :=
  zlet (uI σ 11 0 31 ((σ.1 11 0 31) + (1 : Int32))) fun σ1 =>
  tv xs0 <| some (σ1, xs0)
theorem e_X11_goesOn_63  (σ : zH) (xs0 : Int32) (y1 : zAV) : j_X11_goesOn_63 σ xs0 = zin cc_X11_goesOn (fun t => none) 1 krI b_X11_goesOn 63 σ [vR 11 0, y1] [vI xs0] := by
  unfold j_X11_goesOn_63
  refine Eq.symm ((zin_b (es := q_X11_goesOn_63) rfl).trans ?_)
  refine (t_X11_goesOn_63 _ _ _ _ _).trans ?_
  refine x_pf0.trans (plt fun _ => ?_)
  refine (t_X11_goesOn_74 _ _ _ _).trans ?_
  exact x_zret
theorem s_X11_goesOn_63 {X : zX} (hX : zHX X)   : ∀ σ L st r, gl_X11_goesOn_63 j_X11_goesOn_63 σ L st = some r → zGW X 159 krI 63 σ L st r := by
  intro σ L st r h
  unfold gl_X11_goesOn_63 at h
  split at h
  · exact zin_ok (hy_X11_goesOn hX) bk_X11_goesOn (fun t f hf => by
    cases hf) ((e_X11_goesOn_63 _ _ _).symm.trans h)
  · cases h
noncomputable def j_X11_goesOn_62  (σ : zH)  : Option (zH × Int32) :=
  j_X11_goesOn_63 σ (0 : Int32)
theorem e_X11_goesOn_62  (σ : zH)  (y1 : zAV) : j_X11_goesOn_62 σ = zin cc_X11_goesOn (fun t => if t = 63 then some (gl_X11_goesOn_63 j_X11_goesOn_63) else none) 1 krI b_X11_goesOn 62 σ [vR 11 0, y1] [] := by
  unfold j_X11_goesOn_62
  refine Eq.symm ((zin_b (es := q_X11_goesOn_62) rfl).trans ?_)
  refine (t_X11_goesOn_62 _ _ _ _).trans ?_
  refine x_cut.trans ?_
  exact (zrun_c rfl).trans (glr_X11_goesOn_63 _ _ _ _)
theorem s_X11_goesOn_62 {X : zX} (hX : zHX X)   : ∀ σ L st r, gl_X11_goesOn_62 j_X11_goesOn_62 σ L st = some r → zGW X 159 krI 62 σ L st r := by
  intro σ L st r h
  unfold gl_X11_goesOn_62 at h
  split at h
  · exact zin_ok (hy_X11_goesOn hX) bk_X11_goesOn (fun t f hf => by
    by_cases e63 : t = 63
    · rw [if_pos e63] at hf; subst e63; cases hf; exact (s_X11_goesOn_63 hX)
    rw [if_neg e63] at hf
    cases hf) ((e_X11_goesOn_62 _ _).symm.trans h)
  · cases h
noncomputable def j_X11_goesOn_40  (σ : zH)  : Option (zH × Int32) :=
  if (σ.1 11 0 32) = 0 then
    if (σ.1 11 0 31) < (σ.1 11 0 30) then
      j_X11_goesOn_63 σ (1 : Int32)
    else
      j_X11_goesOn_62 σ
  else
    j_X11_goesOn_62 σ
theorem e_X11_goesOn_40  (σ : zH)  (y1 : zAV) : j_X11_goesOn_40 σ = zin cc_X11_goesOn (fun t => if t = 62 then some (gl_X11_goesOn_62 j_X11_goesOn_62) else if t = 63 then some (gl_X11_goesOn_63 j_X11_goesOn_63) else none) 1 krI b_X11_goesOn 40 σ [vR 11 0, y1] [] := by
  unfold j_X11_goesOn_40
  refine Eq.symm ((zin_b (es := q_X11_goesOn_40) rfl).trans ?_)
  refine (t_X11_goesOn_40 _ _ _).trans ?_
  refine x_if.trans (pif_ne ?_ ?_)
  · exact (zrun_c rfl).trans (glr_X11_goesOn_62 _ _ _)
  · refine (t_X11_goesOn_47 _ _ _).trans ?_
    refine x_icmp.trans (pif_ge ?_ ?_)
    · exact (zrun_c rfl).trans (glr_X11_goesOn_62 _ _ _)
    · refine (t_X11_goesOn_58 _ _ _ _).trans ?_
      refine x_goto.trans ?_
      exact (zrun_c rfl).trans (glr_X11_goesOn_63 _ _ _ _)
theorem s_X11_goesOn_40 {X : zX} (hX : zHX X)   : ∀ σ L st r, gl_X11_goesOn_40 j_X11_goesOn_40 σ L st = some r → zGW X 159 krI 40 σ L st r := by
  intro σ L st r h
  unfold gl_X11_goesOn_40 at h
  split at h
  · exact zin_ok (hy_X11_goesOn hX) bk_X11_goesOn (fun t f hf => by
    by_cases e62 : t = 62
    · rw [if_pos e62] at hf; subst e62; cases hf; exact (s_X11_goesOn_62 hX)
    rw [if_neg e62] at hf
    by_cases e63 : t = 63
    · rw [if_pos e63] at hf; subst e63; cases hf; exact (s_X11_goesOn_63 hX)
    rw [if_neg e63] at hf
    cases hf) ((e_X11_goesOn_40 _ _).symm.trans h)
  · cases h
noncomputable def d_X11_goesOn (σ : zH)  : Option (zH × Int32) :=
  (d_X11_blanks σ).bind fun σ1 =>
  if (σ1.1 11 0 32) = 0 then
    if (σ1.1 11 0 31) < (σ1.1 11 0 30) then
      (d_X11_sign σ1).bind fun p2 =>
      if p2.2 = (59 : Int32) then
        j_X11_goesOn_40 p2.1
      else
        (d_X11_fails p2.1 (0 : Int32) (p2.1.1 11 0 31)).bind fun σ3 =>
        j_X11_goesOn_40 σ3
    else
      j_X11_goesOn_40 σ1
  else
    j_X11_goesOn_40 σ1
theorem e_X11_goesOn (σ : zH)  : d_X11_goesOn σ = zin cc_X11_goesOn (fun t => if t = 40 then some (gl_X11_goesOn_40 j_X11_goesOn_40) else none) 1 krI b_X11_goesOn 0 σ [vR 11 0, vU] [] := by
  unfold d_X11_goesOn
  refine Eq.symm ((zin_b (es := q_X11_goesOn_0) rfl).trans ?_)
  refine (t_X11_goesOn_0 _ _ _).trans ?_
  refine (x_callV rfl rfl rfl rfl).trans ((cl_X11_goesOn_X11_blanks _ _ _).trans ((gr_X11_blanks _ _).trans (pbd fun _ => ?_)))
  refine (t_X11_goesOn_4 _ _ _).trans ?_
  refine x_if.trans (pif_ne ?_ ?_)
  · exact (zrun_c rfl).trans (glr_X11_goesOn_40 _ _ _)
  · refine (t_X11_goesOn_11 _ _ _).trans ?_
    refine x_icmp.trans (pif_ge ?_ ?_)
    · exact (zrun_c rfl).trans (glr_X11_goesOn_40 _ _ _)
    · refine (t_X11_goesOn_22 _ _ _).trans ?_
      refine (x_callV rfl rfl rfl rfl).trans ((cl_X11_goesOn_X11_sign _ _ _).trans ((gr_X11_sign _ _).trans (pbd fun _ => ?_)))
      refine (t_X11_goesOn_26 _ _ _ _ _).trans ?_
      refine x_icmp.trans (pif_eq ?_ ?_)
      · exact (zrun_c rfl).trans (glr_X11_goesOn_40 _ _ _)
      · refine (t_X11_goesOn_31 _ _ _ _).trans ?_
        refine (x_callV rfl rfl rfl rfl).trans ((cl_X11_goesOn_X11_fails _ _ _).trans ((gr_X11_fails _ _ _ _).trans (pbd fun _ => ?_)))
        refine x_cut.trans ?_
        exact (zrun_c rfl).trans (glr_X11_goesOn_40 _ _ _)
noncomputable def g_X11_goesOn {ρ : Type} (σ : zH) (av : List zAV) (q : zH → zAV → Option ρ) : Option ρ := match av with
  | [.inr (.inr (.inl (11, 0)))] => (d_X11_goesOn σ).bind fun p => q p.1 (vI p.2)
  | _ => none
theorem gr_X11_goesOn {ρ : Type} (σ : zH)  (q : zH → zAV → Option ρ) : g_X11_goesOn σ [vR 11 0] q = (d_X11_goesOn σ).bind fun p => q p.1 (vI p.2) := rfl
theorem c_X11_goesOn {ρ : Type} {X : zX} (hX : zHX X) {σ : zH} {av : List zAV} {q : zH → zAV → Option ρ} {r : ρ} (h : g_X11_goesOn σ av q = some r) (hv : ∀ a ∈ av, zval X a) : zcon X 159 σ av q r := by
  unfold g_X11_goesOn at h
  split at h
  · exact zcon_I (n := 159) (ml := 2) (rc := 1) (st := 0) (kd := 11) (np := 0) (by decide +kernel) (by decide) ⟨_, _, rfl, rfl⟩ (Nat.le_of_ble_eq_true rfl) hv h (fun y h1 => (zin_ok (hy_X11_goesOn hX) bk_X11_goesOn (fun t f hf => by
      by_cases e40 : t = 40
      · rw [if_pos e40] at hf; subst e40; cases hf; exact (s_X11_goesOn_40 hX)
      rw [if_neg e40] at hf
      cases hf) ((e_X11_goesOn _).symm.trans h1)))
  · cases h
/-! SleepWavesModel.starts()V -/
def q_X11_starts_25 : List zEnt := zE 25 .return_ 1 :: []
def q_X11_starts_22 : List zEnt := zEf 22 (.putfield 243) 3 11 37 185 (0, 0, 0) :: q_X11_starts_25
def q_X11_starts_20 : List zEnt := zE 20 (.aload_n 0) 1 :: zEk 21 (.iconst 0) 1 0 :: q_X11_starts_22
def q_X11_starts_17 : List zEnt := zEf 17 (.putfield 281) 3 11 36 184 (0, 0, 0) :: q_X11_starts_20
def q_X11_starts_15 : List zEnt := zE 15 (.aload_n 0) 1 :: zEk 16 (.iconst 0) 1 0 :: q_X11_starts_17
def q_X11_starts_12 : List zEnt := zEf 12 (.putfield 240) 3 11 35 183 (0, 0, 0) :: q_X11_starts_15
def q_X11_starts_10 : List zEnt := zE 10 (.aload_n 0) 1 :: zEk 11 (.iconst 0) 1 0 :: q_X11_starts_12
def q_X11_starts_7 : List zEnt := zEf 7 (.putfield 208) 3 11 32 180 (0, 0, 0) :: q_X11_starts_10
def q_X11_starts_5 : List zEnt := zE 5 (.aload_n 0) 1 :: zEk 6 (.iconst 0) 1 0 :: q_X11_starts_7
def q_X11_starts_2 : List zEnt := zEf 2 (.putfield 211) 3 11 31 179 (0, 0, 0) :: q_X11_starts_5
def q_X11_starts_0 : List zEnt := zE 0 (.aload_n 0) 1 :: zEk 1 (.iconst 0) 1 0 :: q_X11_starts_2
def b_X11_starts : List (Nat × List zEnt) := [(0, q_X11_starts_0)]
theorem bk_X11_starts : zchB 160 b_X11_starts = true := by decide +kernel
theorem hy_X11_starts {ρ : Type} {X : zX} (hX : zHX X) : zHY X 160 (zc0 (ρ := ρ)) := zHX.hY hX (zc0_ok X) (zmok_all 160 (by decide))
theorem t_X11_starts_0 {G : Nat → zH → List zAV → List zAV → Option zH} (es : List zEnt) (σ : zH)   (w1 : Int32) : zev zc0 G 9 krV (zE 0 (.aload_n 0) 1 :: zEk 1 (.iconst 0) 1 w1 :: es) σ [vR 11 0] [] = zev zc0 G 9 krV es σ [vR 11 0] [vI w1, vR 11 0] := rfl
theorem t_X11_starts_5 {G : Nat → zH → List zAV → List zAV → Option zH} (es : List zEnt) (σ : zH)   (w6 : Int32) : zev zc0 G 9 krV (zE 5 (.aload_n 0) 1 :: zEk 6 (.iconst 0) 1 w6 :: es) σ [vR 11 0] [] = zev zc0 G 9 krV es σ [vR 11 0] [vI w6, vR 11 0] := rfl
theorem t_X11_starts_10 {G : Nat → zH → List zAV → List zAV → Option zH} (es : List zEnt) (σ : zH)   (w11 : Int32) : zev zc0 G 9 krV (zE 10 (.aload_n 0) 1 :: zEk 11 (.iconst 0) 1 w11 :: es) σ [vR 11 0] [] = zev zc0 G 9 krV es σ [vR 11 0] [vI w11, vR 11 0] := rfl
theorem t_X11_starts_15 {G : Nat → zH → List zAV → List zAV → Option zH} (es : List zEnt) (σ : zH)   (w16 : Int32) : zev zc0 G 9 krV (zE 15 (.aload_n 0) 1 :: zEk 16 (.iconst 0) 1 w16 :: es) σ [vR 11 0] [] = zev zc0 G 9 krV es σ [vR 11 0] [vI w16, vR 11 0] := rfl
theorem t_X11_starts_20 {G : Nat → zH → List zAV → List zAV → Option zH} (es : List zEnt) (σ : zH)   (w21 : Int32) : zev zc0 G 9 krV (zE 20 (.aload_n 0) 1 :: zEk 21 (.iconst 0) 1 w21 :: es) σ [vR 11 0] [] = zev zc0 G 9 krV es σ [vR 11 0] [vI w21, vR 11 0] := rfl
noncomputable def d_X11_starts (σ : zH)  : Option zH :=
  zlet (uI σ 11 0 31 (0 : Int32)) fun σ1 =>
  zlet (uI σ1 11 0 32 (0 : Int32)) fun σ2 =>
  zlet (uI σ2 11 0 35 (0 : Int32)) fun σ3 =>
  zlet (uI σ3 11 0 36 (0 : Int32)) fun σ4 =>
  zlet (uI σ4 11 0 37 (0 : Int32)) fun σ5 =>
  some σ5
theorem e_X11_starts (σ : zH)  : d_X11_starts σ = zin zc0 (fun t => none) 9 krV b_X11_starts 0 σ [vR 11 0] [] := by
  unfold d_X11_starts
  refine Eq.symm ((zin_b (es := q_X11_starts_0) rfl).trans ?_)
  refine (t_X11_starts_0 _ _ _).trans ?_
  refine x_pf0.trans (plt fun _ => ?_)
  refine (t_X11_starts_5 _ _ _).trans ?_
  refine x_pf0.trans (plt fun _ => ?_)
  refine (t_X11_starts_10 _ _ _).trans ?_
  refine x_pf0.trans (plt fun _ => ?_)
  refine (t_X11_starts_15 _ _ _).trans ?_
  refine x_pf0.trans (plt fun _ => ?_)
  refine (t_X11_starts_20 _ _ _).trans ?_
  refine x_pf0.trans (plt fun _ => ?_)
  exact x_vret
noncomputable def g_X11_starts {ρ : Type} (σ : zH) (av : List zAV) (q : zH → zAV → Option ρ) : Option ρ := match av with
  | [.inr (.inr (.inl (11, 0)))] => (d_X11_starts σ).bind fun σ => q σ vU
  | _ => none
theorem gr_X11_starts {ρ : Type} (σ : zH)  (q : zH → zAV → Option ρ) : g_X11_starts σ [vR 11 0] q = (d_X11_starts σ).bind fun σ => q σ vU := rfl
theorem c_X11_starts {ρ : Type} {X : zX} (hX : zHX X) {σ : zH} {av : List zAV} {q : zH → zAV → Option ρ} {r : ρ} (h : g_X11_starts σ av q = some r) (hv : ∀ a ∈ av, zval X a) : zcon X 160 σ av q r := by
  unfold g_X11_starts at h
  split at h
  · exact zcon_V (n := 160) (ml := 1) (rc := 9) (st := 0) (kd := 11) (np := 0) (by decide +kernel) rfl ⟨_, _, rfl, rfl⟩ (Nat.le_of_ble_eq_true rfl) hv h (fun y h1 => (zin_ok (hy_X11_starts hX) bk_X11_starts (fun t f hf => by
      cases hf) ((e_X11_starts _).symm.trans h1)))
  · cases h
/-! SleepWavesModel.barracks()I -/
def q_X11_barracks_9 : List zEnt := zEk 9 (.iconst 0) 1 0 :: zE 10 (.istore_n 1) 1 :: [zE 11 .nop 0]
def q_X11_barracks_6 : List zEnt := zEf 6 (.putfield 309) 3 11 40 188 (0, 1, 0) :: q_X11_barracks_9
def q_X11_barracks_4 : List zEnt := zE 4 (.aload_n 0) 1 :: zEk 5 (.iconst 0) 1 0 :: q_X11_barracks_6
def q_X11_barracks_1 : List zEnt := zEc 1 (.invokevirtual 322) 3 160 1 117 1 :: q_X11_barracks_4
def q_X11_barracks_0 : List zEnt := zE 0 (.aload_n 0) 1 :: q_X11_barracks_1
def q_X11_barracks_26 : List zEnt := zEa 26 (.goto (-15)) 3 11 :: []
def q_X11_barracks_23 : List zEnt := zEk 23 (.iinc 1 1) 3 1 :: q_X11_barracks_26
def q_X11_barracks_22 : List zEnt := zE 22 .iastore 1 :: q_X11_barracks_23
def q_X11_barracks_16 : List zEnt := zE 16 (.aload_n 0) 1 :: zEf 17 (.getfield 40) 3 11 11 159 (2, 52, 0) :: zE 20 (.iload_n 1) 1 :: zEk 21 (.iconst 0) 1 0 :: q_X11_barracks_22
def q_X11_barracks_13 : List zEnt := zEa 13 (.if_icmp .ge 16) 3 29 :: q_X11_barracks_16
def q_X11_barracks_11 : List zEnt := zE 11 (.iload_n 1) 1 :: zEk 12 (.iconst 4) 1 4 :: q_X11_barracks_13
def q_X11_barracks_29 : List zEnt := zEk 29 (.iconst 0) 1 0 :: zE 30 (.istore_n 1) 1 :: zEk 31 (.iconst 1) 1 1 :: zE 32 (.istore_n 2) 1 :: [zE 33 .nop 0]
def q_X11_barracks_50 : List zEnt := zEa 50 (.goto (-17)) 3 33 :: []
def q_X11_barracks_49 : List zEnt := zE 49 (.istore_n 2) 1 :: q_X11_barracks_50
def q_X11_barracks_46 : List zEnt := zEc 46 (.invokevirtual 328) 3 159 1 130 0 :: q_X11_barracks_49
def q_X11_barracks_42 : List zEnt := zEk 42 (.iinc 1 1) 3 1 :: zE 45 (.aload_n 0) 1 :: q_X11_barracks_46
def q_X11_barracks_39 : List zEnt := zEc 39 (.invokevirtual 325) 3 157 2 118 1 :: q_X11_barracks_42
def q_X11_barracks_37 : List zEnt := zE 37 (.aload_n 0) 1 :: zE 38 (.iload_n 1) 1 :: q_X11_barracks_39
def q_X11_barracks_34 : List zEnt := zEa 34 (.ifCond .eq 19) 3 53 :: q_X11_barracks_37
def q_X11_barracks_33 : List zEnt := zE 33 (.iload_n 2) 1 :: q_X11_barracks_34
def q_X11_barracks_72 : List zEnt := zE 72 .ireturn 1 :: []
def q_X11_barracks_65 : List zEnt := zEk 65 (.bipush (-2)) 2 (-2) :: zE 67 (.aload_n 0) 1 :: zEf 68 (.getfield 208) 3 11 32 180 (0, 0, 0) :: zE 71 .isub 1 :: q_X11_barracks_72
def q_X11_barracks_62 : List zEnt := zEa 62 (.ifCond .le 11) 3 73 :: q_X11_barracks_65
def q_X11_barracks_58 : List zEnt := zE 58 (.aload_n 0) 1 :: zEf 59 (.getfield 208) 3 11 32 180 (0, 0, 0) :: q_X11_barracks_62
def q_X11_barracks_55 : List zEnt := zEf 55 (.putfield 181) 3 11 30 178 (0, 0, 0) :: q_X11_barracks_58
def q_X11_barracks_53 : List zEnt := zE 53 (.aload_n 0) 1 :: zEk 54 (.iconst 0) 1 0 :: q_X11_barracks_55
def q_X11_barracks_183 : List zEnt := zEk 183 (.iconst 0) 1 0 :: zE 184 (.istore_n 3) 1 :: [zE 185 .nop 0]
def q_X11_barracks_180 : List zEnt := zEc 180 (.invokestatic 331) 3 158 2 131 1 :: q_X11_barracks_183
def q_X11_barracks_172 : List zEnt := zE 172 (.aload_n 0) 1 :: zEf 173 (.getfield 67) 3 11 20 168 (2, 61, 0) :: zE 176 (.aload_n 0) 1 :: zEf 177 (.getfield 37) 3 11 10 158 (2, 51, 0) :: q_X11_barracks_180
def q_X11_barracks_169 : List zEnt := zEc 169 (.invokestatic 331) 3 158 2 131 1 :: q_X11_barracks_172
def q_X11_barracks_161 : List zEnt := zE 161 (.aload_n 0) 1 :: zEf 162 (.getfield 64) 3 11 19 167 (2, 60, 0) :: zE 165 (.aload_n 0) 1 :: zEf 166 (.getfield 34) 3 11 9 157 (2, 50, 0) :: q_X11_barracks_169
def q_X11_barracks_158 : List zEnt := zEc 158 (.invokestatic 331) 3 158 2 131 1 :: q_X11_barracks_161
def q_X11_barracks_150 : List zEnt := zE 150 (.aload_n 0) 1 :: zEf 151 (.getfield 61) 3 11 18 166 (2, 59, 0) :: zE 154 (.aload_n 0) 1 :: zEf 155 (.getfield 31) 3 11 8 156 (2, 49, 0) :: q_X11_barracks_158
def q_X11_barracks_147 : List zEnt := zEc 147 (.invokestatic 331) 3 158 2 131 1 :: q_X11_barracks_150
def q_X11_barracks_139 : List zEnt := zE 139 (.aload_n 0) 1 :: zEf 140 (.getfield 58) 3 11 17 165 (2, 58, 0) :: zE 143 (.aload_n 0) 1 :: zEf 144 (.getfield 28) 3 11 7 155 (2, 48, 0) :: q_X11_barracks_147
def q_X11_barracks_136 : List zEnt := zEc 136 (.invokestatic 331) 3 158 2 131 1 :: q_X11_barracks_139
def q_X11_barracks_128 : List zEnt := zE 128 (.aload_n 0) 1 :: zEf 129 (.getfield 55) 3 11 16 164 (2, 57, 0) :: zE 132 (.aload_n 0) 1 :: zEf 133 (.getfield 25) 3 11 6 154 (2, 47, 0) :: q_X11_barracks_136
def q_X11_barracks_125 : List zEnt := zEc 125 (.invokestatic 331) 3 158 2 131 1 :: q_X11_barracks_128
def q_X11_barracks_117 : List zEnt := zE 117 (.aload_n 0) 1 :: zEf 118 (.getfield 52) 3 11 15 163 (2, 56, 0) :: zE 121 (.aload_n 0) 1 :: zEf 122 (.getfield 22) 3 11 5 153 (2, 46, 0) :: q_X11_barracks_125
def q_X11_barracks_114 : List zEnt := zEc 114 (.invokestatic 331) 3 158 2 131 1 :: q_X11_barracks_117
def q_X11_barracks_106 : List zEnt := zE 106 (.aload_n 0) 1 :: zEf 107 (.getfield 49) 3 11 14 162 (2, 55, 0) :: zE 110 (.aload_n 0) 1 :: zEf 111 (.getfield 19) 3 11 4 152 (2, 45, 0) :: q_X11_barracks_114
def q_X11_barracks_103 : List zEnt := zEc 103 (.invokestatic 331) 3 158 2 131 1 :: q_X11_barracks_106
def q_X11_barracks_95 : List zEnt := zE 95 (.aload_n 0) 1 :: zEf 96 (.getfield 46) 3 11 13 161 (2, 54, 0) :: zE 99 (.aload_n 0) 1 :: zEf 100 (.getfield 16) 3 11 3 151 (2, 44, 0) :: q_X11_barracks_103
def q_X11_barracks_92 : List zEnt := zEc 92 (.invokestatic 331) 3 158 2 131 1 :: q_X11_barracks_95
def q_X11_barracks_84 : List zEnt := zE 84 (.aload_n 0) 1 :: zEf 85 (.getfield 43) 3 11 12 160 (2, 53, 0) :: zE 88 (.aload_n 0) 1 :: zEf 89 (.getfield 13) 3 11 2 150 (2, 43, 0) :: q_X11_barracks_92
def q_X11_barracks_81 : List zEnt := zEc 81 (.invokestatic 331) 3 158 2 131 1 :: q_X11_barracks_84
def q_X11_barracks_73 : List zEnt := zE 73 (.aload_n 0) 1 :: zEf 74 (.getfield 40) 3 11 11 159 (2, 52, 0) :: zE 77 (.aload_n 0) 1 :: zEf 78 (.getfield 7) 3 11 1 149 (2, 42, 0) :: q_X11_barracks_81
def q_X11_barracks_244 : List zEnt := zEa 244 (.goto (-59)) 3 185 :: []
def q_X11_barracks_241 : List zEnt := zEk 241 (.iinc 3 1) 3 1 :: q_X11_barracks_244
def q_X11_barracks_240 : List zEnt := zE 240 .iastore 1 :: q_X11_barracks_241
def q_X11_barracks_234 : List zEnt := zE 234 (.aload_n 0) 1 :: zEf 235 (.getfield 91) 3 11 28 176 (2, 69, 0) :: zE 238 (.iload_n 3) 1 :: zEk 239 (.iconst (-1)) 1 (-1) :: q_X11_barracks_240
def q_X11_barracks_233 : List zEnt := zE 233 .iastore 1 :: q_X11_barracks_234
def q_X11_barracks_227 : List zEnt := zE 227 (.aload_n 0) 1 :: zEf 228 (.getfield 88) 3 11 27 175 (2, 68, 0) :: zE 231 (.iload_n 3) 1 :: zEk 232 (.iconst 0) 1 0 :: q_X11_barracks_233
def q_X11_barracks_226 : List zEnt := zE 226 .iastore 1 :: q_X11_barracks_227
def q_X11_barracks_220 : List zEnt := zE 220 (.aload_n 0) 1 :: zEf 221 (.getfield 85) 3 11 26 174 (2, 67, 0) :: zE 224 (.iload_n 3) 1 :: zEk 225 (.iconst 0) 1 0 :: q_X11_barracks_226
def q_X11_barracks_219 : List zEnt := zE 219 .iastore 1 :: q_X11_barracks_220
def q_X11_barracks_212 : List zEnt := zE 212 (.aload_n 0) 1 :: zEf 213 (.getfield 79) 3 11 24 172 (2, 65, 0) :: zE 216 (.iload_n 3) 1 :: zEk 217 (.bipush (-100)) 2 (-100) :: q_X11_barracks_219
def q_X11_barracks_211 : List zEnt := zE 211 .iastore 1 :: q_X11_barracks_212
def q_X11_barracks_205 : List zEnt := zE 205 (.aload_n 0) 1 :: zEf 206 (.getfield 76) 3 11 23 171 (2, 64, 0) :: zE 209 (.iload_n 3) 1 :: zEk 210 (.iconst 0) 1 0 :: q_X11_barracks_211
def q_X11_barracks_204 : List zEnt := zE 204 .iastore 1 :: q_X11_barracks_205
def q_X11_barracks_198 : List zEnt := zE 198 (.aload_n 0) 1 :: zEf 199 (.getfield 73) 3 11 22 170 (2, 63, 0) :: zE 202 (.iload_n 3) 1 :: zEk 203 (.iconst 0) 1 0 :: q_X11_barracks_204
def q_X11_barracks_197 : List zEnt := zE 197 .iastore 1 :: q_X11_barracks_198
def q_X11_barracks_191 : List zEnt := zE 191 (.aload_n 0) 1 :: zEf 192 (.getfield 70) 3 11 21 169 (2, 62, 0) :: zE 195 (.iload_n 3) 1 :: zEk 196 (.iconst 0) 1 0 :: q_X11_barracks_197
def q_X11_barracks_188 : List zEnt := zEa 188 (.if_icmp .ge 59) 3 247 :: q_X11_barracks_191
def q_X11_barracks_185 : List zEnt := zE 185 (.iload_n 3) 1 :: zEk 186 (.bipush 12) 2 12 :: q_X11_barracks_188
def q_X11_barracks_300 : List zEnt := zE 300 .ireturn 1 :: []
def q_X11_barracks_299 : List zEnt := zE 299 .iaload 1 :: q_X11_barracks_300
def q_X11_barracks_294 : List zEnt := zE 294 (.aload_n 0) 1 :: zEf 295 (.getfield 7) 3 11 1 149 (2, 42, 0) :: zEk 298 (.iconst 0) 1 0 :: q_X11_barracks_299
def q_X11_barracks_293 : List zEnt := zE 293 .iastore 1 :: q_X11_barracks_294
def q_X11_barracks_286 : List zEnt := zE 286 (.aload_n 0) 1 :: zEf 287 (.getfield 7) 3 11 1 149 (2, 42, 0) :: zEk 290 (.bipush 9) 2 9 :: zEk 292 (.iconst 0) 1 0 :: q_X11_barracks_293
def q_X11_barracks_285 : List zEnt := zE 285 .iastore 1 :: q_X11_barracks_286
def q_X11_barracks_278 : List zEnt := zE 278 (.aload_n 0) 1 :: zEf 279 (.getfield 7) 3 11 1 149 (2, 42, 0) :: zEk 282 (.bipush 8) 2 8 :: zEk 284 (.iconst 0) 1 0 :: q_X11_barracks_285
def q_X11_barracks_277 : List zEnt := zE 277 .iastore 1 :: q_X11_barracks_278
def q_X11_barracks_270 : List zEnt := zE 270 (.aload_n 0) 1 :: zEf 271 (.getfield 7) 3 11 1 149 (2, 42, 0) :: zEk 274 (.bipush 7) 2 7 :: zEk 276 (.iconst 0) 1 0 :: q_X11_barracks_277
def q_X11_barracks_269 : List zEnt := zE 269 .iastore 1 :: q_X11_barracks_270
def q_X11_barracks_261 : List zEnt := zE 261 (.aload_n 0) 1 :: zEf 262 (.getfield 7) 3 11 1 149 (2, 42, 0) :: zEk 265 (.bipush 6) 2 6 :: zEk 267 (.bipush (-2)) 2 (-2) :: q_X11_barracks_269
def q_X11_barracks_260 : List zEnt := zE 260 .iastore 1 :: q_X11_barracks_261
def q_X11_barracks_254 : List zEnt := zE 254 (.aload_n 0) 1 :: zEf 255 (.getfield 7) 3 11 1 149 (2, 42, 0) :: zEk 258 (.iconst 5) 1 5 :: zEk 259 (.iconst 0) 1 0 :: q_X11_barracks_260
def q_X11_barracks_253 : List zEnt := zE 253 .iastore 1 :: q_X11_barracks_254
def q_X11_barracks_247 : List zEnt := zE 247 (.aload_n 0) 1 :: zEf 248 (.getfield 7) 3 11 1 149 (2, 42, 0) :: zEk 251 (.iconst 4) 1 4 :: zEk 252 (.iconst 0) 1 0 :: q_X11_barracks_253
def b_X11_barracks : List (Nat × List zEnt) := [(0, q_X11_barracks_0), (11, q_X11_barracks_11), (29, q_X11_barracks_29), (33, q_X11_barracks_33), (53, q_X11_barracks_53), (73, q_X11_barracks_73), (185, q_X11_barracks_185), (247, q_X11_barracks_247)]
theorem bk_X11_barracks : zchB 161 b_X11_barracks = true := by decide +kernel
noncomputable def cc_X11_barracks {ρ : Type} : Nat → zH → List zAV → (zH → zAV → Option ρ) → Option ρ := fun n σ av q => if n = 160 then g_X11_starts σ av q else if n = 157 then g_X11_barracksClause σ av q else if n = 159 then g_X11_goesOn σ av q else if n = 158 then g_X11_lay σ av q else none
theorem cs_X11_barracks {ρ : Type} {X : zX} (hX : zHX X) : zCS X (cc_X11_barracks (ρ := ρ)) := by
  intro n σ av q r h hv
  unfold cc_X11_barracks at h
  by_cases e_X11_starts : n = 160
  · rw [if_pos e_X11_starts] at h
    subst e_X11_starts
    exact c_X11_starts hX h hv
  rw [if_neg e_X11_starts] at h
  by_cases e_X11_barracksClause : n = 157
  · rw [if_pos e_X11_barracksClause] at h
    subst e_X11_barracksClause
    exact c_X11_barracksClause hX h hv
  rw [if_neg e_X11_barracksClause] at h
  by_cases e_X11_goesOn : n = 159
  · rw [if_pos e_X11_goesOn] at h
    subst e_X11_goesOn
    exact c_X11_goesOn hX h hv
  rw [if_neg e_X11_goesOn] at h
  by_cases e_X11_lay : n = 158
  · rw [if_pos e_X11_lay] at h
    subst e_X11_lay
    exact c_X11_lay hX h hv
  rw [if_neg e_X11_lay] at h
  cases h
theorem cl_X11_barracks_X11_starts {ρ : Type} (σ : zH) (av : List zAV) (q : zH → zAV → Option ρ) : cc_X11_barracks 160 σ av q = g_X11_starts σ av q := rfl
theorem cl_X11_barracks_X11_barracksClause {ρ : Type} (σ : zH) (av : List zAV) (q : zH → zAV → Option ρ) : cc_X11_barracks 157 σ av q = g_X11_barracksClause σ av q := rfl
theorem cl_X11_barracks_X11_goesOn {ρ : Type} (σ : zH) (av : List zAV) (q : zH → zAV → Option ρ) : cc_X11_barracks 159 σ av q = g_X11_goesOn σ av q := rfl
theorem cl_X11_barracks_X11_lay {ρ : Type} (σ : zH) (av : List zAV) (q : zH → zAV → Option ρ) : cc_X11_barracks 158 σ av q = g_X11_lay σ av q := rfl
theorem hy_X11_barracks {ρ : Type} {X : zX} (hX : zHX X) : zHY X 161 (cc_X11_barracks (ρ := ρ)) := zHX.hY hX (cs_X11_barracks hX) (zmok_all 161 (by decide))
def gl_X11_barracks_11 {ρ : Type} (f : zH → Int32 → Option ρ) (σ : zH) (L st : List zAV) : Option ρ := match L, st with
  | [.inr (.inr (.inl (11, 0))), .inl x1, _, _], [] => f σ x1
  | _, _ => none
def gl_X11_barracks_29 {ρ : Type} (f : zH → Option ρ) (σ : zH) (L st : List zAV) : Option ρ := match L, st with
  | [.inr (.inr (.inl (11, 0))), _, _, _], [] => f σ
  | _, _ => none
def gl_X11_barracks_33 {ρ : Type} (f : zH → Int32 → Int32 → Option ρ) (σ : zH) (L st : List zAV) : Option ρ := match L, st with
  | [.inr (.inr (.inl (11, 0))), .inl x1, .inl x2, _], [] => f σ x1 x2
  | _, _ => none
def gl_X11_barracks_53 {ρ : Type} (f : zH → Option ρ) (σ : zH) (L st : List zAV) : Option ρ := match L, st with
  | [.inr (.inr (.inl (11, 0))), _, _, _], [] => f σ
  | _, _ => none
def gl_X11_barracks_185 {ρ : Type} (f : zH → Int32 → Option ρ) (σ : zH) (L st : List zAV) : Option ρ := match L, st with
  | [.inr (.inr (.inl (11, 0))), _, _, .inl x3], [] => f σ x3
  | _, _ => none
def gl_X11_barracks_247 {ρ : Type} (f : zH → Option ρ) (σ : zH) (L st : List zAV) : Option ρ := match L, st with
  | [.inr (.inr (.inl (11, 0))), _, _, _], [] => f σ
  | _, _ => none
theorem glr_X11_barracks_11 {ρ : Type} (f : zH → Int32 → Option ρ) (σ : zH) (x1 : Int32) (y2 : zAV) (y3 : zAV) : gl_X11_barracks_11 f σ [vR 11 0, vI x1, y2, y3] [] = f σ x1 := rfl
theorem glr_X11_barracks_29 {ρ : Type} (f : zH → Option ρ) (σ : zH)  (y1 : zAV) (y2 : zAV) (y3 : zAV) : gl_X11_barracks_29 f σ [vR 11 0, y1, y2, y3] [] = f σ := rfl
theorem glr_X11_barracks_33 {ρ : Type} (f : zH → Int32 → Int32 → Option ρ) (σ : zH) (x1 : Int32) (x2 : Int32) (y3 : zAV) : gl_X11_barracks_33 f σ [vR 11 0, vI x1, vI x2, y3] [] = f σ x1 x2 := rfl
theorem glr_X11_barracks_53 {ρ : Type} (f : zH → Option ρ) (σ : zH)  (y1 : zAV) (y2 : zAV) (y3 : zAV) : gl_X11_barracks_53 f σ [vR 11 0, y1, y2, y3] [] = f σ := rfl
theorem glr_X11_barracks_185 {ρ : Type} (f : zH → Int32 → Option ρ) (σ : zH) (x3 : Int32) (y1 : zAV) (y2 : zAV) : gl_X11_barracks_185 f σ [vR 11 0, y1, y2, vI x3] [] = f σ x3 := rfl
theorem glr_X11_barracks_247 {ρ : Type} (f : zH → Option ρ) (σ : zH)  (y1 : zAV) (y2 : zAV) (y3 : zAV) : gl_X11_barracks_247 f σ [vR 11 0, y1, y2, y3] [] = f σ := rfl
theorem t_X11_barracks_0 {G : Nat → zH → List zAV → List zAV → Option (zH × Int32)} (es : List zEnt) (σ : zH)  (y1 : zAV) (y2 : zAV) (y3 : zAV)  : zev cc_X11_barracks G 0 krI (zE 0 (.aload_n 0) 1 :: es) σ [vR 11 0, y1, y2, y3] [] = zev cc_X11_barracks G 0 krI es σ [vR 11 0, y1, y2, y3] [vR 11 0] := rfl
theorem t_X11_barracks_4 {G : Nat → zH → List zAV → List zAV → Option (zH × Int32)} (es : List zEnt) (σ : zH)  (y1 : zAV) (y2 : zAV) (y3 : zAV) (w5 : Int32) : zev cc_X11_barracks G 0 krI (zE 4 (.aload_n 0) 1 :: zEk 5 (.iconst 0) 1 w5 :: es) σ [vR 11 0, y1, y2, y3] [] = zev cc_X11_barracks G 0 krI es σ [vR 11 0, y1, y2, y3] [vI w5, vR 11 0] := rfl
theorem t_X11_barracks_9 {G : Nat → zH → List zAV → List zAV → Option (zH × Int32)} (es : List zEnt) (σ : zH)  (y1 : zAV) (y2 : zAV) (y3 : zAV) (w9 : Int32) : zev cc_X11_barracks G 0 krI (zEk 9 (.iconst 0) 1 w9 :: zE 10 (.istore_n 1) 1 :: es) σ [vR 11 0, y1, y2, y3] [] = zev cc_X11_barracks G 0 krI es σ [vR 11 0, vI w9, y2, y3] [] := rfl
theorem t_X11_barracks_11 {G : Nat → zH → List zAV → List zAV → Option (zH × Int32)} (es : List zEnt) (σ : zH) (x1 : Int32) (y2 : zAV) (y3 : zAV) (w12 : Int32) : zev cc_X11_barracks G 0 krI (zE 11 (.iload_n 1) 1 :: zEk 12 (.iconst 4) 1 w12 :: es) σ [vR 11 0, vI x1, y2, y3] [] = zev cc_X11_barracks G 0 krI es σ [vR 11 0, vI x1, y2, y3] [vI w12, vI x1] := rfl
theorem t_X11_barracks_16 {G : Nat → zH → List zAV → List zAV → Option (zH × Int32)} (es : List zEnt) (σ : zH) (x1 : Int32) (y2 : zAV) (y3 : zAV) (w21 : Int32) : zev cc_X11_barracks G 0 krI (zE 16 (.aload_n 0) 1 :: zEf 17 (.getfield 40) 3 11 11 159 (2, 52, 0) :: zE 20 (.iload_n 1) 1 :: zEk 21 (.iconst 0) 1 w21 :: es) σ [vR 11 0, vI x1, y2, y3] [] = zev cc_X11_barracks G 0 krI es σ [vR 11 0, vI x1, y2, y3] [vI w21, vI x1, vR 52 0] := rfl
theorem t_X11_barracks_23 {G : Nat → zH → List zAV → List zAV → Option (zH × Int32)} (es : List zEnt) (σ : zH) (x1 : Int32) (y2 : zAV) (y3 : zAV) (w23 : Int32) : zev cc_X11_barracks G 0 krI (zEk 23 (.iinc 1 1) 3 w23 :: es) σ [vR 11 0, vI x1, y2, y3] [] = zev cc_X11_barracks G 0 krI es σ [vR 11 0, vI (x1 + w23), y2, y3] [] := rfl
theorem t_X11_barracks_29 {G : Nat → zH → List zAV → List zAV → Option (zH × Int32)} (es : List zEnt) (σ : zH)  (y1 : zAV) (y2 : zAV) (y3 : zAV) (w29 : Int32) (w31 : Int32) : zev cc_X11_barracks G 0 krI (zEk 29 (.iconst 0) 1 w29 :: zE 30 (.istore_n 1) 1 :: zEk 31 (.iconst 1) 1 w31 :: zE 32 (.istore_n 2) 1 :: es) σ [vR 11 0, y1, y2, y3] [] = zev cc_X11_barracks G 0 krI es σ [vR 11 0, vI w29, vI w31, y3] [] := rfl
theorem t_X11_barracks_33 {G : Nat → zH → List zAV → List zAV → Option (zH × Int32)} (es : List zEnt) (σ : zH) (x1 : Int32) (x2 : Int32) (y3 : zAV)  : zev cc_X11_barracks G 0 krI (zE 33 (.iload_n 2) 1 :: es) σ [vR 11 0, vI x1, vI x2, y3] [] = zev cc_X11_barracks G 0 krI es σ [vR 11 0, vI x1, vI x2, y3] [vI x2] := rfl
theorem t_X11_barracks_37 {G : Nat → zH → List zAV → List zAV → Option (zH × Int32)} (es : List zEnt) (σ : zH) (x1 : Int32) (y2 : zAV) (y3 : zAV)  : zev cc_X11_barracks G 0 krI (zE 37 (.aload_n 0) 1 :: zE 38 (.iload_n 1) 1 :: es) σ [vR 11 0, vI x1, y2, y3] [] = zev cc_X11_barracks G 0 krI es σ [vR 11 0, vI x1, y2, y3] [vI x1, vR 11 0] := rfl
theorem t_X11_barracks_42 {G : Nat → zH → List zAV → List zAV → Option (zH × Int32)} (es : List zEnt) (σ : zH) (x1 : Int32) (y2 : zAV) (y3 : zAV) (w42 : Int32) : zev cc_X11_barracks G 0 krI (zEk 42 (.iinc 1 1) 3 w42 :: zE 45 (.aload_n 0) 1 :: es) σ [vR 11 0, vI x1, y2, y3] [] = zev cc_X11_barracks G 0 krI es σ [vR 11 0, vI (x1 + w42), y2, y3] [vR 11 0] := rfl
theorem t_X11_barracks_49 {G : Nat → zH → List zAV → List zAV → Option (zH × Int32)} (es : List zEnt) (σ : zH) (x1 : Int32) (xs0 : Int32) (y2 : zAV) (y3 : zAV)  : zev cc_X11_barracks G 0 krI (zE 49 (.istore_n 2) 1 :: es) σ [vR 11 0, vI x1, y2, y3] [vI xs0] = zev cc_X11_barracks G 0 krI es σ [vR 11 0, vI x1, vI xs0, y3] [] := rfl
theorem t_X11_barracks_53 {G : Nat → zH → List zAV → List zAV → Option (zH × Int32)} (es : List zEnt) (σ : zH)  (y1 : zAV) (y2 : zAV) (y3 : zAV) (w54 : Int32) : zev cc_X11_barracks G 0 krI (zE 53 (.aload_n 0) 1 :: zEk 54 (.iconst 0) 1 w54 :: es) σ [vR 11 0, y1, y2, y3] [] = zev cc_X11_barracks G 0 krI es σ [vR 11 0, y1, y2, y3] [vI w54, vR 11 0] := rfl
theorem t_X11_barracks_58 {G : Nat → zH → List zAV → List zAV → Option (zH × Int32)} (es : List zEnt) (σ : zH)  (y1 : zAV) (y2 : zAV) (y3 : zAV)  : zev cc_X11_barracks G 0 krI (zE 58 (.aload_n 0) 1 :: zEf 59 (.getfield 208) 3 11 32 180 (0, 0, 0) :: es) σ [vR 11 0, y1, y2, y3] [] = zev cc_X11_barracks G 0 krI es σ [vR 11 0, y1, y2, y3] [vI (σ.1 11 0 32)] := rfl
theorem t_X11_barracks_65 {G : Nat → zH → List zAV → List zAV → Option (zH × Int32)} (es : List zEnt) (σ : zH)  (y1 : zAV) (y2 : zAV) (y3 : zAV) (w65 : Int32) : zev cc_X11_barracks G 0 krI (zEk 65 (.bipush (-2)) 2 w65 :: zE 67 (.aload_n 0) 1 :: zEf 68 (.getfield 208) 3 11 32 180 (0, 0, 0) :: zE 71 .isub 1 :: es) σ [vR 11 0, y1, y2, y3] [] = zev cc_X11_barracks G 0 krI es σ [vR 11 0, y1, y2, y3] [vI (w65 - (σ.1 11 0 32))] := rfl
theorem t_X11_barracks_73 {G : Nat → zH → List zAV → List zAV → Option (zH × Int32)} (es : List zEnt) (σ : zH)  (y1 : zAV) (y2 : zAV) (y3 : zAV)  : zev cc_X11_barracks G 0 krI (zE 73 (.aload_n 0) 1 :: zEf 74 (.getfield 40) 3 11 11 159 (2, 52, 0) :: zE 77 (.aload_n 0) 1 :: zEf 78 (.getfield 7) 3 11 1 149 (2, 42, 0) :: es) σ [vR 11 0, y1, y2, y3] [] = zev cc_X11_barracks G 0 krI es σ [vR 11 0, y1, y2, y3] [vR 42 0, vR 52 0] := rfl
theorem t_X11_barracks_84 {G : Nat → zH → List zAV → List zAV → Option (zH × Int32)} (es : List zEnt) (σ : zH)  (y1 : zAV) (y2 : zAV) (y3 : zAV)  : zev cc_X11_barracks G 0 krI (zE 84 (.aload_n 0) 1 :: zEf 85 (.getfield 43) 3 11 12 160 (2, 53, 0) :: zE 88 (.aload_n 0) 1 :: zEf 89 (.getfield 13) 3 11 2 150 (2, 43, 0) :: es) σ [vR 11 0, y1, y2, y3] [] = zev cc_X11_barracks G 0 krI es σ [vR 11 0, y1, y2, y3] [vR 43 0, vR 53 0] := rfl
theorem t_X11_barracks_95 {G : Nat → zH → List zAV → List zAV → Option (zH × Int32)} (es : List zEnt) (σ : zH)  (y1 : zAV) (y2 : zAV) (y3 : zAV)  : zev cc_X11_barracks G 0 krI (zE 95 (.aload_n 0) 1 :: zEf 96 (.getfield 46) 3 11 13 161 (2, 54, 0) :: zE 99 (.aload_n 0) 1 :: zEf 100 (.getfield 16) 3 11 3 151 (2, 44, 0) :: es) σ [vR 11 0, y1, y2, y3] [] = zev cc_X11_barracks G 0 krI es σ [vR 11 0, y1, y2, y3] [vR 44 0, vR 54 0] := rfl
theorem t_X11_barracks_106 {G : Nat → zH → List zAV → List zAV → Option (zH × Int32)} (es : List zEnt) (σ : zH)  (y1 : zAV) (y2 : zAV) (y3 : zAV)  : zev cc_X11_barracks G 0 krI (zE 106 (.aload_n 0) 1 :: zEf 107 (.getfield 49) 3 11 14 162 (2, 55, 0) :: zE 110 (.aload_n 0) 1 :: zEf 111 (.getfield 19) 3 11 4 152 (2, 45, 0) :: es) σ [vR 11 0, y1, y2, y3] [] = zev cc_X11_barracks G 0 krI es σ [vR 11 0, y1, y2, y3] [vR 45 0, vR 55 0] := rfl
theorem t_X11_barracks_117 {G : Nat → zH → List zAV → List zAV → Option (zH × Int32)} (es : List zEnt) (σ : zH)  (y1 : zAV) (y2 : zAV) (y3 : zAV)  : zev cc_X11_barracks G 0 krI (zE 117 (.aload_n 0) 1 :: zEf 118 (.getfield 52) 3 11 15 163 (2, 56, 0) :: zE 121 (.aload_n 0) 1 :: zEf 122 (.getfield 22) 3 11 5 153 (2, 46, 0) :: es) σ [vR 11 0, y1, y2, y3] [] = zev cc_X11_barracks G 0 krI es σ [vR 11 0, y1, y2, y3] [vR 46 0, vR 56 0] := rfl
theorem t_X11_barracks_128 {G : Nat → zH → List zAV → List zAV → Option (zH × Int32)} (es : List zEnt) (σ : zH)  (y1 : zAV) (y2 : zAV) (y3 : zAV)  : zev cc_X11_barracks G 0 krI (zE 128 (.aload_n 0) 1 :: zEf 129 (.getfield 55) 3 11 16 164 (2, 57, 0) :: zE 132 (.aload_n 0) 1 :: zEf 133 (.getfield 25) 3 11 6 154 (2, 47, 0) :: es) σ [vR 11 0, y1, y2, y3] [] = zev cc_X11_barracks G 0 krI es σ [vR 11 0, y1, y2, y3] [vR 47 0, vR 57 0] := rfl
theorem t_X11_barracks_139 {G : Nat → zH → List zAV → List zAV → Option (zH × Int32)} (es : List zEnt) (σ : zH)  (y1 : zAV) (y2 : zAV) (y3 : zAV)  : zev cc_X11_barracks G 0 krI (zE 139 (.aload_n 0) 1 :: zEf 140 (.getfield 58) 3 11 17 165 (2, 58, 0) :: zE 143 (.aload_n 0) 1 :: zEf 144 (.getfield 28) 3 11 7 155 (2, 48, 0) :: es) σ [vR 11 0, y1, y2, y3] [] = zev cc_X11_barracks G 0 krI es σ [vR 11 0, y1, y2, y3] [vR 48 0, vR 58 0] := rfl
theorem t_X11_barracks_150 {G : Nat → zH → List zAV → List zAV → Option (zH × Int32)} (es : List zEnt) (σ : zH)  (y1 : zAV) (y2 : zAV) (y3 : zAV)  : zev cc_X11_barracks G 0 krI (zE 150 (.aload_n 0) 1 :: zEf 151 (.getfield 61) 3 11 18 166 (2, 59, 0) :: zE 154 (.aload_n 0) 1 :: zEf 155 (.getfield 31) 3 11 8 156 (2, 49, 0) :: es) σ [vR 11 0, y1, y2, y3] [] = zev cc_X11_barracks G 0 krI es σ [vR 11 0, y1, y2, y3] [vR 49 0, vR 59 0] := rfl
theorem t_X11_barracks_161 {G : Nat → zH → List zAV → List zAV → Option (zH × Int32)} (es : List zEnt) (σ : zH)  (y1 : zAV) (y2 : zAV) (y3 : zAV)  : zev cc_X11_barracks G 0 krI (zE 161 (.aload_n 0) 1 :: zEf 162 (.getfield 64) 3 11 19 167 (2, 60, 0) :: zE 165 (.aload_n 0) 1 :: zEf 166 (.getfield 34) 3 11 9 157 (2, 50, 0) :: es) σ [vR 11 0, y1, y2, y3] [] = zev cc_X11_barracks G 0 krI es σ [vR 11 0, y1, y2, y3] [vR 50 0, vR 60 0] := rfl
theorem t_X11_barracks_172 {G : Nat → zH → List zAV → List zAV → Option (zH × Int32)} (es : List zEnt) (σ : zH)  (y1 : zAV) (y2 : zAV) (y3 : zAV)  : zev cc_X11_barracks G 0 krI (zE 172 (.aload_n 0) 1 :: zEf 173 (.getfield 67) 3 11 20 168 (2, 61, 0) :: zE 176 (.aload_n 0) 1 :: zEf 177 (.getfield 37) 3 11 10 158 (2, 51, 0) :: es) σ [vR 11 0, y1, y2, y3] [] = zev cc_X11_barracks G 0 krI es σ [vR 11 0, y1, y2, y3] [vR 51 0, vR 61 0] := rfl
theorem t_X11_barracks_183 {G : Nat → zH → List zAV → List zAV → Option (zH × Int32)} (es : List zEnt) (σ : zH)  (y1 : zAV) (y2 : zAV) (y3 : zAV) (w183 : Int32) : zev cc_X11_barracks G 0 krI (zEk 183 (.iconst 0) 1 w183 :: zE 184 (.istore_n 3) 1 :: es) σ [vR 11 0, y1, y2, y3] [] = zev cc_X11_barracks G 0 krI es σ [vR 11 0, y1, (zkp y2), vI w183] [] := rfl
theorem t_X11_barracks_185 {G : Nat → zH → List zAV → List zAV → Option (zH × Int32)} (es : List zEnt) (σ : zH) (x3 : Int32) (y1 : zAV) (y2 : zAV) (w186 : Int32) : zev cc_X11_barracks G 0 krI (zE 185 (.iload_n 3) 1 :: zEk 186 (.bipush 12) 2 w186 :: es) σ [vR 11 0, y1, y2, vI x3] [] = zev cc_X11_barracks G 0 krI es σ [vR 11 0, y1, y2, vI x3] [vI w186, vI x3] := rfl
theorem t_X11_barracks_191 {G : Nat → zH → List zAV → List zAV → Option (zH × Int32)} (es : List zEnt) (σ : zH) (x3 : Int32) (y1 : zAV) (y2 : zAV) (w196 : Int32) : zev cc_X11_barracks G 0 krI (zE 191 (.aload_n 0) 1 :: zEf 192 (.getfield 70) 3 11 21 169 (2, 62, 0) :: zE 195 (.iload_n 3) 1 :: zEk 196 (.iconst 0) 1 w196 :: es) σ [vR 11 0, y1, y2, vI x3] [] = zev cc_X11_barracks G 0 krI es σ [vR 11 0, y1, y2, vI x3] [vI w196, vI x3, vR 62 0] := rfl
theorem t_X11_barracks_198 {G : Nat → zH → List zAV → List zAV → Option (zH × Int32)} (es : List zEnt) (σ : zH) (x3 : Int32) (y1 : zAV) (y2 : zAV) (w203 : Int32) : zev cc_X11_barracks G 0 krI (zE 198 (.aload_n 0) 1 :: zEf 199 (.getfield 73) 3 11 22 170 (2, 63, 0) :: zE 202 (.iload_n 3) 1 :: zEk 203 (.iconst 0) 1 w203 :: es) σ [vR 11 0, y1, y2, vI x3] [] = zev cc_X11_barracks G 0 krI es σ [vR 11 0, y1, y2, vI x3] [vI w203, vI x3, vR 63 0] := rfl
theorem t_X11_barracks_205 {G : Nat → zH → List zAV → List zAV → Option (zH × Int32)} (es : List zEnt) (σ : zH) (x3 : Int32) (y1 : zAV) (y2 : zAV) (w210 : Int32) : zev cc_X11_barracks G 0 krI (zE 205 (.aload_n 0) 1 :: zEf 206 (.getfield 76) 3 11 23 171 (2, 64, 0) :: zE 209 (.iload_n 3) 1 :: zEk 210 (.iconst 0) 1 w210 :: es) σ [vR 11 0, y1, y2, vI x3] [] = zev cc_X11_barracks G 0 krI es σ [vR 11 0, y1, y2, vI x3] [vI w210, vI x3, vR 64 0] := rfl
theorem t_X11_barracks_212 {G : Nat → zH → List zAV → List zAV → Option (zH × Int32)} (es : List zEnt) (σ : zH) (x3 : Int32) (y1 : zAV) (y2 : zAV) (w217 : Int32) : zev cc_X11_barracks G 0 krI (zE 212 (.aload_n 0) 1 :: zEf 213 (.getfield 79) 3 11 24 172 (2, 65, 0) :: zE 216 (.iload_n 3) 1 :: zEk 217 (.bipush (-100)) 2 w217 :: es) σ [vR 11 0, y1, y2, vI x3] [] = zev cc_X11_barracks G 0 krI es σ [vR 11 0, y1, y2, vI x3] [vI w217, vI x3, vR 65 0] := rfl
theorem t_X11_barracks_220 {G : Nat → zH → List zAV → List zAV → Option (zH × Int32)} (es : List zEnt) (σ : zH) (x3 : Int32) (y1 : zAV) (y2 : zAV) (w225 : Int32) : zev cc_X11_barracks G 0 krI (zE 220 (.aload_n 0) 1 :: zEf 221 (.getfield 85) 3 11 26 174 (2, 67, 0) :: zE 224 (.iload_n 3) 1 :: zEk 225 (.iconst 0) 1 w225 :: es) σ [vR 11 0, y1, y2, vI x3] [] = zev cc_X11_barracks G 0 krI es σ [vR 11 0, y1, y2, vI x3] [vI w225, vI x3, vR 67 0] := rfl
theorem t_X11_barracks_227 {G : Nat → zH → List zAV → List zAV → Option (zH × Int32)} (es : List zEnt) (σ : zH) (x3 : Int32) (y1 : zAV) (y2 : zAV) (w232 : Int32) : zev cc_X11_barracks G 0 krI (zE 227 (.aload_n 0) 1 :: zEf 228 (.getfield 88) 3 11 27 175 (2, 68, 0) :: zE 231 (.iload_n 3) 1 :: zEk 232 (.iconst 0) 1 w232 :: es) σ [vR 11 0, y1, y2, vI x3] [] = zev cc_X11_barracks G 0 krI es σ [vR 11 0, y1, y2, vI x3] [vI w232, vI x3, vR 68 0] := rfl
theorem t_X11_barracks_234 {G : Nat → zH → List zAV → List zAV → Option (zH × Int32)} (es : List zEnt) (σ : zH) (x3 : Int32) (y1 : zAV) (y2 : zAV) (w239 : Int32) : zev cc_X11_barracks G 0 krI (zE 234 (.aload_n 0) 1 :: zEf 235 (.getfield 91) 3 11 28 176 (2, 69, 0) :: zE 238 (.iload_n 3) 1 :: zEk 239 (.iconst (-1)) 1 w239 :: es) σ [vR 11 0, y1, y2, vI x3] [] = zev cc_X11_barracks G 0 krI es σ [vR 11 0, y1, y2, vI x3] [vI w239, vI x3, vR 69 0] := rfl
theorem t_X11_barracks_241 {G : Nat → zH → List zAV → List zAV → Option (zH × Int32)} (es : List zEnt) (σ : zH) (x3 : Int32) (y1 : zAV) (y2 : zAV) (w241 : Int32) : zev cc_X11_barracks G 0 krI (zEk 241 (.iinc 3 1) 3 w241 :: es) σ [vR 11 0, y1, y2, vI x3] [] = zev cc_X11_barracks G 0 krI es σ [vR 11 0, y1, (zkp y2), vI (x3 + w241)] [] := rfl
theorem t_X11_barracks_247 {G : Nat → zH → List zAV → List zAV → Option (zH × Int32)} (es : List zEnt) (σ : zH)  (y1 : zAV) (y2 : zAV) (y3 : zAV) (w251 : Int32) (w252 : Int32) : zev cc_X11_barracks G 0 krI (zE 247 (.aload_n 0) 1 :: zEf 248 (.getfield 7) 3 11 1 149 (2, 42, 0) :: zEk 251 (.iconst 4) 1 w251 :: zEk 252 (.iconst 0) 1 w252 :: es) σ [vR 11 0, y1, y2, y3] [] = zev cc_X11_barracks G 0 krI es σ [vR 11 0, y1, y2, y3] [vI w252, vI w251, vR 42 0] := rfl
theorem t_X11_barracks_254 {G : Nat → zH → List zAV → List zAV → Option (zH × Int32)} (es : List zEnt) (σ : zH)  (y1 : zAV) (y2 : zAV) (y3 : zAV) (w258 : Int32) (w259 : Int32) : zev cc_X11_barracks G 0 krI (zE 254 (.aload_n 0) 1 :: zEf 255 (.getfield 7) 3 11 1 149 (2, 42, 0) :: zEk 258 (.iconst 5) 1 w258 :: zEk 259 (.iconst 0) 1 w259 :: es) σ [vR 11 0, y1, y2, y3] [] = zev cc_X11_barracks G 0 krI es σ [vR 11 0, y1, y2, y3] [vI w259, vI w258, vR 42 0] := rfl
theorem t_X11_barracks_261 {G : Nat → zH → List zAV → List zAV → Option (zH × Int32)} (es : List zEnt) (σ : zH)  (y1 : zAV) (y2 : zAV) (y3 : zAV) (w265 : Int32) (w267 : Int32) : zev cc_X11_barracks G 0 krI (zE 261 (.aload_n 0) 1 :: zEf 262 (.getfield 7) 3 11 1 149 (2, 42, 0) :: zEk 265 (.bipush 6) 2 w265 :: zEk 267 (.bipush (-2)) 2 w267 :: es) σ [vR 11 0, y1, y2, y3] [] = zev cc_X11_barracks G 0 krI es σ [vR 11 0, y1, y2, y3] [vI w267, vI w265, vR 42 0] := rfl
theorem t_X11_barracks_270 {G : Nat → zH → List zAV → List zAV → Option (zH × Int32)} (es : List zEnt) (σ : zH)  (y1 : zAV) (y2 : zAV) (y3 : zAV) (w274 : Int32) (w276 : Int32) : zev cc_X11_barracks G 0 krI (zE 270 (.aload_n 0) 1 :: zEf 271 (.getfield 7) 3 11 1 149 (2, 42, 0) :: zEk 274 (.bipush 7) 2 w274 :: zEk 276 (.iconst 0) 1 w276 :: es) σ [vR 11 0, y1, y2, y3] [] = zev cc_X11_barracks G 0 krI es σ [vR 11 0, y1, y2, y3] [vI w276, vI w274, vR 42 0] := rfl
theorem t_X11_barracks_278 {G : Nat → zH → List zAV → List zAV → Option (zH × Int32)} (es : List zEnt) (σ : zH)  (y1 : zAV) (y2 : zAV) (y3 : zAV) (w282 : Int32) (w284 : Int32) : zev cc_X11_barracks G 0 krI (zE 278 (.aload_n 0) 1 :: zEf 279 (.getfield 7) 3 11 1 149 (2, 42, 0) :: zEk 282 (.bipush 8) 2 w282 :: zEk 284 (.iconst 0) 1 w284 :: es) σ [vR 11 0, y1, y2, y3] [] = zev cc_X11_barracks G 0 krI es σ [vR 11 0, y1, y2, y3] [vI w284, vI w282, vR 42 0] := rfl
theorem t_X11_barracks_286 {G : Nat → zH → List zAV → List zAV → Option (zH × Int32)} (es : List zEnt) (σ : zH)  (y1 : zAV) (y2 : zAV) (y3 : zAV) (w290 : Int32) (w292 : Int32) : zev cc_X11_barracks G 0 krI (zE 286 (.aload_n 0) 1 :: zEf 287 (.getfield 7) 3 11 1 149 (2, 42, 0) :: zEk 290 (.bipush 9) 2 w290 :: zEk 292 (.iconst 0) 1 w292 :: es) σ [vR 11 0, y1, y2, y3] [] = zev cc_X11_barracks G 0 krI es σ [vR 11 0, y1, y2, y3] [vI w292, vI w290, vR 42 0] := rfl
theorem t_X11_barracks_294 {G : Nat → zH → List zAV → List zAV → Option (zH × Int32)} (es : List zEnt) (σ : zH)  (y1 : zAV) (y2 : zAV) (y3 : zAV) (w298 : Int32) : zev cc_X11_barracks G 0 krI (zE 294 (.aload_n 0) 1 :: zEf 295 (.getfield 7) 3 11 1 149 (2, 42, 0) :: zEk 298 (.iconst 0) 1 w298 :: es) σ [vR 11 0, y1, y2, y3] [] = zev cc_X11_barracks G 0 krI es σ [vR 11 0, y1, y2, y3] [vI w298, vR 42 0] := rfl
noncomputable def k_X11_barracks_11 (c29 : zH → Option (zH × Int32)) : Nat → zH → Int32 → Option (zH × Int32)
  | 0, _, _ => none
  | n + 1, σ, x1 =>
    if x1 < (4 : Int32) then
      ix x1 4 fun j2 =>
      zlet (uI σ 52 0 j2 (0 : Int32)) fun σ1 =>
      (k_X11_barracks_11 c29 n) σ1 (x1 + (1 : Int32))
    else
      c29 σ
theorem e_X11_barracks_11 (c29 : zH → Option (zH × Int32)) (n : Nat) (σ : zH) (x1 : Int32) (y2 : zAV) (y3 : zAV) : k_X11_barracks_11 c29 (n + 1) σ x1 = zin cc_X11_barracks (fun t => if t = 11 then some (gl_X11_barracks_11 (k_X11_barracks_11 c29 n)) else if t = 29 then some (gl_X11_barracks_29 c29) else none) 0 krI b_X11_barracks 11 σ [vR 11 0, vI x1, y2, y3] [] := by
  rw [k_X11_barracks_11]
  refine Eq.symm ((zin_b (es := q_X11_barracks_11) rfl).trans ?_)
  refine (t_X11_barracks_11 _ _ _ _ _ _).trans ?_
  refine x_icmp.trans (pif_ge ?_ ?_)
  · exact (zrun_c rfl).trans (glr_X11_barracks_29 _ _ _ _ _)
  · refine (t_X11_barracks_16 _ _ _ _ _ _).trans ?_
    refine (x_iast (N := 4) rfl rfl).trans (pix fun _ => plt fun _ => ?_)
    refine (t_X11_barracks_23 _ _ _ _ _ _).trans ?_
    refine x_goto.trans ?_
    exact (zrun_c rfl).trans (glr_X11_barracks_11 _ _ _ _ _)
theorem s_X11_barracks_11 {X : zX} (hX : zHX X) {c29 : zH → Option (zH × Int32)} (h29 : ∀ σ L st r, gl_X11_barracks_29 c29 σ L st = some r → zGW X 161 krI 29 σ L st r) : ∀ n σ L st r, gl_X11_barracks_11 (k_X11_barracks_11 c29 n) σ L st = some r → zGW X 161 krI 11 σ L st r := by
  intro n
  induction n with
  | zero =>
    intro σ L st r h
    unfold gl_X11_barracks_11 at h
    split at h <;> cases h
  | succ n ih =>
    intro σ L st r h
    unfold gl_X11_barracks_11 at h
    split at h
    · exact zin_ok (hy_X11_barracks hX) bk_X11_barracks (fun t f hf => by
      by_cases e11 : t = 11
      · rw [if_pos e11] at hf; subst e11; cases hf; exact ih
      rw [if_neg e11] at hf
      by_cases e29 : t = 29
      · rw [if_pos e29] at hf; subst e29; cases hf; exact h29
      rw [if_neg e29] at hf
      cases hf) ((e_X11_barracks_11 _ _ _ _ _ _).symm.trans h)
    · cases h
noncomputable def k_X11_barracks_33 (c53 : zH → Option (zH × Int32)) : Nat → zH → Int32 → Int32 → Option (zH × Int32)
  | 0, _, _, _ => none
  | n + 1, σ, x1, x2 =>
    if x2 = 0 then
      c53 σ
    else
      (d_X11_barracksClause σ x1).bind fun σ1 =>
      (d_X11_goesOn σ1).bind fun p2 =>
      (k_X11_barracks_33 c53 n) p2.1 (x1 + (1 : Int32)) p2.2
theorem e_X11_barracks_33 (c53 : zH → Option (zH × Int32)) (n : Nat) (σ : zH) (x1 : Int32) (x2 : Int32) (y3 : zAV) : k_X11_barracks_33 c53 (n + 1) σ x1 x2 = zin cc_X11_barracks (fun t => if t = 33 then some (gl_X11_barracks_33 (k_X11_barracks_33 c53 n)) else if t = 53 then some (gl_X11_barracks_53 c53) else none) 0 krI b_X11_barracks 33 σ [vR 11 0, vI x1, vI x2, y3] [] := by
  rw [k_X11_barracks_33]
  refine Eq.symm ((zin_b (es := q_X11_barracks_33) rfl).trans ?_)
  refine (t_X11_barracks_33 _ _ _ _ _).trans ?_
  refine x_if.trans (pif_eq ?_ ?_)
  · exact (zrun_c rfl).trans (glr_X11_barracks_53 _ _ _ _ _)
  · refine (t_X11_barracks_37 _ _ _ _ _).trans ?_
    refine (x_callV rfl rfl rfl rfl).trans ((cl_X11_barracks_X11_barracksClause _ _ _).trans ((gr_X11_barracksClause _ _ _).trans (pbd fun _ => ?_)))
    refine (t_X11_barracks_42 _ _ _ _ _ _).trans ?_
    refine (x_callV rfl rfl rfl rfl).trans ((cl_X11_barracks_X11_goesOn _ _ _).trans ((gr_X11_goesOn _ _).trans (pbd fun _ => ?_)))
    refine (t_X11_barracks_49 _ _ _ _ _ _).trans ?_
    refine x_goto.trans ?_
    exact (zrun_c rfl).trans (glr_X11_barracks_33 _ _ _ _ _)
theorem s_X11_barracks_33 {X : zX} (hX : zHX X) {c53 : zH → Option (zH × Int32)} (h53 : ∀ σ L st r, gl_X11_barracks_53 c53 σ L st = some r → zGW X 161 krI 53 σ L st r) : ∀ n σ L st r, gl_X11_barracks_33 (k_X11_barracks_33 c53 n) σ L st = some r → zGW X 161 krI 33 σ L st r := by
  intro n
  induction n with
  | zero =>
    intro σ L st r h
    unfold gl_X11_barracks_33 at h
    split at h <;> cases h
  | succ n ih =>
    intro σ L st r h
    unfold gl_X11_barracks_33 at h
    split at h
    · exact zin_ok (hy_X11_barracks hX) bk_X11_barracks (fun t f hf => by
      by_cases e33 : t = 33
      · rw [if_pos e33] at hf; subst e33; cases hf; exact ih
      rw [if_neg e33] at hf
      by_cases e53 : t = 53
      · rw [if_pos e53] at hf; subst e53; cases hf; exact h53
      rw [if_neg e53] at hf
      cases hf) ((e_X11_barracks_33 _ _ _ _ _ _).symm.trans h)
    · cases h
noncomputable def k_X11_barracks_185 (c247 : zH → Option (zH × Int32)) : Nat → zH → Int32 → Option (zH × Int32)
  | 0, _, _ => none
  | n + 1, σ, x3 =>
    if x3 < (12 : Int32) then
      ix x3 12 fun j14 =>
      zlet (uI σ 62 0 j14 (0 : Int32)) fun σ1 =>
      ix x3 12 fun j13 =>
      zlet (uI σ1 63 0 j13 (0 : Int32)) fun σ2 =>
      ix x3 12 fun j12 =>
      zlet (uI σ2 64 0 j12 (0 : Int32)) fun σ3 =>
      ix x3 12 fun j11 =>
      zlet (uI σ3 65 0 j11 (-100 : Int32)) fun σ4 =>
      ix x3 12 fun j10 =>
      zlet (uI σ4 67 0 j10 (0 : Int32)) fun σ5 =>
      ix x3 12 fun j9 =>
      zlet (uI σ5 68 0 j9 (0 : Int32)) fun σ6 =>
      ix x3 12 fun j8 =>
      zlet (uI σ6 69 0 j8 (-1 : Int32)) fun σ7 =>
      (k_X11_barracks_185 c247 n) σ7 (x3 + (1 : Int32))
    else
      c247 σ
theorem e_X11_barracks_185 (c247 : zH → Option (zH × Int32)) (n : Nat) (σ : zH) (x3 : Int32) (y1 : zAV) (y2 : zAV) : k_X11_barracks_185 c247 (n + 1) σ x3 = zin cc_X11_barracks (fun t => if t = 185 then some (gl_X11_barracks_185 (k_X11_barracks_185 c247 n)) else if t = 247 then some (gl_X11_barracks_247 c247) else none) 0 krI b_X11_barracks 185 σ [vR 11 0, y1, y2, vI x3] [] := by
  rw [k_X11_barracks_185]
  refine Eq.symm ((zin_b (es := q_X11_barracks_185) rfl).trans ?_)
  refine (t_X11_barracks_185 _ _ _ _ _ _).trans ?_
  refine x_icmp.trans (pif_ge ?_ ?_)
  · exact (zrun_c rfl).trans (glr_X11_barracks_247 _ _ _ _ _)
  · refine (t_X11_barracks_191 _ _ _ _ _ _).trans ?_
    refine (x_iast (N := 12) rfl rfl).trans (pix fun _ => plt fun _ => ?_)
    refine (t_X11_barracks_198 _ _ _ _ _ _).trans ?_
    refine (x_iast (N := 12) rfl rfl).trans (pix fun _ => plt fun _ => ?_)
    refine (t_X11_barracks_205 _ _ _ _ _ _).trans ?_
    refine (x_iast (N := 12) rfl rfl).trans (pix fun _ => plt fun _ => ?_)
    refine (t_X11_barracks_212 _ _ _ _ _ _).trans ?_
    refine (x_iast (N := 12) rfl rfl).trans (pix fun _ => plt fun _ => ?_)
    refine (t_X11_barracks_220 _ _ _ _ _ _).trans ?_
    refine (x_iast (N := 12) rfl rfl).trans (pix fun _ => plt fun _ => ?_)
    refine (t_X11_barracks_227 _ _ _ _ _ _).trans ?_
    refine (x_iast (N := 12) rfl rfl).trans (pix fun _ => plt fun _ => ?_)
    refine (t_X11_barracks_234 _ _ _ _ _ _).trans ?_
    refine (x_iast (N := 12) rfl rfl).trans (pix fun _ => plt fun _ => ?_)
    refine (t_X11_barracks_241 _ _ _ _ _ _).trans ?_
    refine x_goto.trans ?_
    exact (zrun_c rfl).trans (glr_X11_barracks_185 _ _ _ _ _)
theorem s_X11_barracks_185 {X : zX} (hX : zHX X) {c247 : zH → Option (zH × Int32)} (h247 : ∀ σ L st r, gl_X11_barracks_247 c247 σ L st = some r → zGW X 161 krI 247 σ L st r) : ∀ n σ L st r, gl_X11_barracks_185 (k_X11_barracks_185 c247 n) σ L st = some r → zGW X 161 krI 185 σ L st r := by
  intro n
  induction n with
  | zero =>
    intro σ L st r h
    unfold gl_X11_barracks_185 at h
    split at h <;> cases h
  | succ n ih =>
    intro σ L st r h
    unfold gl_X11_barracks_185 at h
    split at h
    · exact zin_ok (hy_X11_barracks hX) bk_X11_barracks (fun t f hf => by
      by_cases e185 : t = 185
      · rw [if_pos e185] at hf; subst e185; cases hf; exact ih
      rw [if_neg e185] at hf
      by_cases e247 : t = 247
      · rw [if_pos e247] at hf; subst e247; cases hf; exact h247
      rw [if_neg e247] at hf
      cases hf) ((e_X11_barracks_185 _ _ _ _ _ _).symm.trans h)
    · cases h
noncomputable def j_X11_barracks_247  (σ : zH)  : Option (zH × Int32) :=
  zlet (uI σ 42 0 4 (0 : Int32)) fun σ1 =>
  zlet (uI σ1 42 0 5 (0 : Int32)) fun σ2 =>
  zlet (uI σ2 42 0 6 (-2 : Int32)) fun σ3 =>
  zlet (uI σ3 42 0 7 (0 : Int32)) fun σ4 =>
  zlet (uI σ4 42 0 8 (0 : Int32)) fun σ5 =>
  zlet (uI σ5 42 0 9 (0 : Int32)) fun σ6 =>
  some (σ6, (σ6.1 42 0 0))
theorem e_X11_barracks_247  (σ : zH)  (y1 : zAV) (y2 : zAV) (y3 : zAV) : j_X11_barracks_247 σ = zin cc_X11_barracks (fun t => none) 0 krI b_X11_barracks 247 σ [vR 11 0, y1, y2, y3] [] := by
  unfold j_X11_barracks_247
  refine Eq.symm ((zin_b (es := q_X11_barracks_247) rfl).trans ?_)
  refine (t_X11_barracks_247 _ _ _ _ _ _ _).trans ?_
  refine (x_iast (N := 11) rfl rfl).trans ((ix_l 4 (by decide +kernel)).trans (plt fun _ => ?_))
  refine (t_X11_barracks_254 _ _ _ _ _ _ _).trans ?_
  refine (x_iast (N := 11) rfl rfl).trans ((ix_l 5 (by decide +kernel)).trans (plt fun _ => ?_))
  refine (t_X11_barracks_261 _ _ _ _ _ _ _).trans ?_
  refine (x_iast (N := 11) rfl rfl).trans ((ix_l 6 (by decide +kernel)).trans (plt fun _ => ?_))
  refine (t_X11_barracks_270 _ _ _ _ _ _ _).trans ?_
  refine (x_iast (N := 11) rfl rfl).trans ((ix_l 7 (by decide +kernel)).trans (plt fun _ => ?_))
  refine (t_X11_barracks_278 _ _ _ _ _ _ _).trans ?_
  refine (x_iast (N := 11) rfl rfl).trans ((ix_l 8 (by decide +kernel)).trans (plt fun _ => ?_))
  refine (t_X11_barracks_286 _ _ _ _ _ _ _).trans ?_
  refine (x_iast (N := 11) rfl rfl).trans ((ix_l 9 (by decide +kernel)).trans (plt fun _ => ?_))
  refine (t_X11_barracks_294 _ _ _ _ _ _).trans ?_
  refine ((x_iald (N := 11) rfl rfl).trans (ix_l 0 (by decide +kernel))).trans ?_
  exact x_iret
theorem s_X11_barracks_247 {X : zX} (hX : zHX X)   : ∀ σ L st r, gl_X11_barracks_247 j_X11_barracks_247 σ L st = some r → zGW X 161 krI 247 σ L st r := by
  intro σ L st r h
  unfold gl_X11_barracks_247 at h
  split at h
  · exact zin_ok (hy_X11_barracks hX) bk_X11_barracks (fun t f hf => by
    cases hf) ((e_X11_barracks_247 _ _ _ _).symm.trans h)
  · cases h
noncomputable def j_X11_barracks_53  (σ : zH)  : Option (zH × Int32) :=
  zlet (uI σ 11 0 30 (0 : Int32)) fun σ1 =>
  if (0 : Int32) < (σ1.1 11 0 32) then
    some (σ1, ((-2 : Int32) - (σ1.1 11 0 32)))
  else
    (d_X11_lay σ1 52 0 42 0).bind fun σ2 =>
    (d_X11_lay σ2 53 0 43 0).bind fun σ3 =>
    (d_X11_lay σ3 54 0 44 0).bind fun σ4 =>
    (d_X11_lay σ4 55 0 45 0).bind fun σ5 =>
    (d_X11_lay σ5 56 0 46 0).bind fun σ6 =>
    (d_X11_lay σ6 57 0 47 0).bind fun σ7 =>
    (d_X11_lay σ7 58 0 48 0).bind fun σ8 =>
    (d_X11_lay σ8 59 0 49 0).bind fun σ9 =>
    (d_X11_lay σ9 60 0 50 0).bind fun σ10 =>
    (d_X11_lay σ10 61 0 51 0).bind fun σ11 =>
    (k_X11_barracks_185 j_X11_barracks_247 zN) σ11 (0 : Int32)
theorem e_X11_barracks_53  (σ : zH)  (y1 : zAV) (y2 : zAV) (y3 : zAV) : j_X11_barracks_53 σ = zin cc_X11_barracks (fun t => if t = 185 then some (gl_X11_barracks_185 (k_X11_barracks_185 j_X11_barracks_247 zN)) else none) 0 krI b_X11_barracks 53 σ [vR 11 0, y1, y2, y3] [] := by
  unfold j_X11_barracks_53
  refine Eq.symm ((zin_b (es := q_X11_barracks_53) rfl).trans ?_)
  refine (t_X11_barracks_53 _ _ _ _ _ _).trans ?_
  refine x_pf0.trans (plt fun _ => ?_)
  refine (t_X11_barracks_58 _ _ _ _ _).trans ?_
  refine x_if.trans (pif_le ?_ ?_)
  · refine (zrun_b (es := q_X11_barracks_73) rfl rfl).trans ?_
    refine (t_X11_barracks_73 _ _ _ _ _).trans ?_
    refine (x_callS rfl rfl rfl rfl).trans ((cl_X11_barracks_X11_lay _ _ _).trans ((gr_X11_lay _ _ _ _ _ _).trans (pbd fun _ => ?_)))
    refine (t_X11_barracks_84 _ _ _ _ _).trans ?_
    refine (x_callS rfl rfl rfl rfl).trans ((cl_X11_barracks_X11_lay _ _ _).trans ((gr_X11_lay _ _ _ _ _ _).trans (pbd fun _ => ?_)))
    refine (t_X11_barracks_95 _ _ _ _ _).trans ?_
    refine (x_callS rfl rfl rfl rfl).trans ((cl_X11_barracks_X11_lay _ _ _).trans ((gr_X11_lay _ _ _ _ _ _).trans (pbd fun _ => ?_)))
    refine (t_X11_barracks_106 _ _ _ _ _).trans ?_
    refine (x_callS rfl rfl rfl rfl).trans ((cl_X11_barracks_X11_lay _ _ _).trans ((gr_X11_lay _ _ _ _ _ _).trans (pbd fun _ => ?_)))
    refine (t_X11_barracks_117 _ _ _ _ _).trans ?_
    refine (x_callS rfl rfl rfl rfl).trans ((cl_X11_barracks_X11_lay _ _ _).trans ((gr_X11_lay _ _ _ _ _ _).trans (pbd fun _ => ?_)))
    refine (t_X11_barracks_128 _ _ _ _ _).trans ?_
    refine (x_callS rfl rfl rfl rfl).trans ((cl_X11_barracks_X11_lay _ _ _).trans ((gr_X11_lay _ _ _ _ _ _).trans (pbd fun _ => ?_)))
    refine (t_X11_barracks_139 _ _ _ _ _).trans ?_
    refine (x_callS rfl rfl rfl rfl).trans ((cl_X11_barracks_X11_lay _ _ _).trans ((gr_X11_lay _ _ _ _ _ _).trans (pbd fun _ => ?_)))
    refine (t_X11_barracks_150 _ _ _ _ _).trans ?_
    refine (x_callS rfl rfl rfl rfl).trans ((cl_X11_barracks_X11_lay _ _ _).trans ((gr_X11_lay _ _ _ _ _ _).trans (pbd fun _ => ?_)))
    refine (t_X11_barracks_161 _ _ _ _ _).trans ?_
    refine (x_callS rfl rfl rfl rfl).trans ((cl_X11_barracks_X11_lay _ _ _).trans ((gr_X11_lay _ _ _ _ _ _).trans (pbd fun _ => ?_)))
    refine (t_X11_barracks_172 _ _ _ _ _).trans ?_
    refine (x_callS rfl rfl rfl rfl).trans ((cl_X11_barracks_X11_lay _ _ _).trans ((gr_X11_lay _ _ _ _ _ _).trans (pbd fun _ => ?_)))
    refine (t_X11_barracks_183 _ _ _ _ _ _).trans ?_
    refine x_cut.trans ?_
    exact (zrun_c rfl).trans (glr_X11_barracks_185 _ _ _ _ _)
  · refine (t_X11_barracks_65 _ _ _ _ _ _).trans ?_
    exact x_iret
theorem s_X11_barracks_53 {X : zX} (hX : zHX X)   : ∀ σ L st r, gl_X11_barracks_53 j_X11_barracks_53 σ L st = some r → zGW X 161 krI 53 σ L st r := by
  intro σ L st r h
  unfold gl_X11_barracks_53 at h
  split at h
  · exact zin_ok (hy_X11_barracks hX) bk_X11_barracks (fun t f hf => by
    by_cases e185 : t = 185
    · rw [if_pos e185] at hf; subst e185; cases hf; exact ((fun σ L st r h => s_X11_barracks_185 hX (s_X11_barracks_247 hX) zN σ L st r h))
    rw [if_neg e185] at hf
    cases hf) ((e_X11_barracks_53 _ _ _ _).symm.trans h)
  · cases h
noncomputable def j_X11_barracks_29  (σ : zH)  : Option (zH × Int32) :=
  (k_X11_barracks_33 j_X11_barracks_53 zN) σ (0 : Int32) (1 : Int32)
theorem e_X11_barracks_29  (σ : zH)  (y1 : zAV) (y2 : zAV) (y3 : zAV) : j_X11_barracks_29 σ = zin cc_X11_barracks (fun t => if t = 33 then some (gl_X11_barracks_33 (k_X11_barracks_33 j_X11_barracks_53 zN)) else none) 0 krI b_X11_barracks 29 σ [vR 11 0, y1, y2, y3] [] := by
  unfold j_X11_barracks_29
  refine Eq.symm ((zin_b (es := q_X11_barracks_29) rfl).trans ?_)
  refine (t_X11_barracks_29 _ _ _ _ _ _ _).trans ?_
  refine x_cut.trans ?_
  exact (zrun_c rfl).trans (glr_X11_barracks_33 _ _ _ _ _)
theorem s_X11_barracks_29 {X : zX} (hX : zHX X)   : ∀ σ L st r, gl_X11_barracks_29 j_X11_barracks_29 σ L st = some r → zGW X 161 krI 29 σ L st r := by
  intro σ L st r h
  unfold gl_X11_barracks_29 at h
  split at h
  · exact zin_ok (hy_X11_barracks hX) bk_X11_barracks (fun t f hf => by
    by_cases e33 : t = 33
    · rw [if_pos e33] at hf; subst e33; cases hf; exact ((fun σ L st r h => s_X11_barracks_33 hX (s_X11_barracks_53 hX) zN σ L st r h))
    rw [if_neg e33] at hf
    cases hf) ((e_X11_barracks_29 _ _ _ _).symm.trans h)
  · cases h
noncomputable def d_X11_barracks (σ : zH)  : Option (zH × Int32) :=
  (d_X11_starts σ).bind fun σ1 =>
  zlet (uI σ1 11 0 40 (0 : Int32)) fun σ2 =>
  (k_X11_barracks_11 j_X11_barracks_29 zN) σ2 (0 : Int32)
theorem e_X11_barracks (σ : zH)  : d_X11_barracks σ = zin cc_X11_barracks (fun t => if t = 11 then some (gl_X11_barracks_11 (k_X11_barracks_11 j_X11_barracks_29 zN)) else none) 0 krI b_X11_barracks 0 σ [vR 11 0, vU, vU, vU] [] := by
  unfold d_X11_barracks
  refine Eq.symm ((zin_b (es := q_X11_barracks_0) rfl).trans ?_)
  refine (t_X11_barracks_0 _ _ _ _ _).trans ?_
  refine (x_callV rfl rfl rfl rfl).trans ((cl_X11_barracks_X11_starts _ _ _).trans ((gr_X11_starts _ _).trans (pbd fun _ => ?_)))
  refine (t_X11_barracks_4 _ _ _ _ _ _).trans ?_
  refine (x_pf1.trans (tv_l (by decide +kernel))).trans (plt fun _ => ?_)
  refine (t_X11_barracks_9 _ _ _ _ _ _).trans ?_
  refine x_cut.trans ?_
  exact (zrun_c rfl).trans (glr_X11_barracks_11 _ _ _ _ _)
noncomputable def g_X11_barracks {ρ : Type} (σ : zH) (av : List zAV) (q : zH → zAV → Option ρ) : Option ρ := match av with
  | [.inr (.inr (.inl (11, 0)))] => (d_X11_barracks σ).bind fun p => q p.1 (vI p.2)
  | _ => none
theorem gr_X11_barracks {ρ : Type} (σ : zH)  (q : zH → zAV → Option ρ) : g_X11_barracks σ [vR 11 0] q = (d_X11_barracks σ).bind fun p => q p.1 (vI p.2) := rfl
theorem c_X11_barracks {ρ : Type} {X : zX} (hX : zHX X) {σ : zH} {av : List zAV} {q : zH → zAV → Option ρ} {r : ρ} (h : g_X11_barracks σ av q = some r) (hv : ∀ a ∈ av, zval X a) : zcon X 161 σ av q r := by
  unfold g_X11_barracks at h
  split at h
  · exact zcon_I (n := 161) (ml := 4) (rc := 0) (st := 0) (kd := 11) (np := 0) (by decide +kernel) (by decide) ⟨_, _, rfl, rfl⟩ (Nat.le_of_ble_eq_true rfl) hv h (fun y h1 => (zin_ok (hy_X11_barracks hX) bk_X11_barracks (fun t f hf => by
      by_cases e11 : t = 11
      · rw [if_pos e11] at hf; subst e11; cases hf; exact ((fun σ L st r h => s_X11_barracks_11 hX (s_X11_barracks_29 hX) zN σ L st r h))
      rw [if_neg e11] at hf
      cases hf) ((e_X11_barracks _).symm.trans h1)))
  · cases h
