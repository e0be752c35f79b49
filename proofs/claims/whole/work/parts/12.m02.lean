/-! SleepWaves$State.getUp(III)V -/
def q_X8_getUp_49 : List zEnt := zE 49 .return_ 1 :: []
def q_X8_getUp_46 : List zEnt := zEc 46 (.invokevirtual 102) 3 80 4 63 1 :: q_X8_getUp_49
def q_X8_getUp_42 : List zEnt := zE 42 (.aload_n 0) 1 :: zE 43 (.iload_n 1) 1 :: zE 44 (.iload_n 2) 1 :: zE 45 (.iload_n 3) 1 :: q_X8_getUp_46
def q_X8_getUp_41 : List zEnt := zE 41 .iastore 1 :: q_X8_getUp_42
def q_X8_getUp_32 : List zEnt := zE 32 (.aload_n 0) 1 :: zEf 33 (.getfield 25) 3 8 8 104 (1, 33, 0) :: zE 36 (.iload_n 1) 1 :: zE 37 (.aload_n 0) 1 :: zEf 38 (.getfield 48) 3 8 1 88 (0, 0, 0) :: q_X8_getUp_41
def q_X8_getUp_29 : List zEnt := zEf 29 (.putfield 65) 3 8 5 98 (0, 0, 0) :: q_X8_getUp_32
def q_X8_getUp_28 : List zEnt := zE 28 .iadd 1 :: q_X8_getUp_29
def q_X8_getUp_27 : List zEnt := zE 27 .iaload 1 :: q_X8_getUp_28
def q_X8_getUp_14 : List zEnt := zE 14 (.aload_n 0) 1 :: zE 15 .dup 1 :: zEf 16 (.getfield 65) 3 8 5 98 (0, 0, 0) :: zE 19 (.aload_n 0) 1 :: zEf 20 (.getfield 12) 3 8 0 84 (1, 0, 1) :: zEf 23 (.getfield 99) 3 0 1 38 (1, 12, 0) :: zE 26 (.iload_n 1) 1 :: q_X8_getUp_27
def q_X8_getUp_11 : List zEnt := zEf 11 (.putfield 54) 3 8 4 96 (0, 0, 0) :: q_X8_getUp_14
def q_X8_getUp_0 : List zEnt := zE 0 (.aload_n 0) 1 :: zE 1 .dup 1 :: zEf 2 (.getfield 54) 3 8 4 96 (0, 0, 0) :: zEk 5 (.iconst 1) 1 1 :: zE 6 (.iload_n 1) 1 :: zE 7 .ishl 1 :: zEk 8 (.iconst (-1)) 1 (-1) :: zE 9 .ixor 1 :: zE 10 .iand 1 :: q_X8_getUp_11
def b_X8_getUp : List (Nat × List zEnt) := [(0, q_X8_getUp_0)]
theorem bk_X8_getUp : zchB 79 b_X8_getUp = true := by decide +kernel
noncomputable def cc_X8_getUp {ρ : Type} : Nat → zH → List zAV → (zH → zAV → Option ρ) → Option ρ := fun n σ av q => if n = 80 then g_X8_keepWhy σ av q else none
theorem cs_X8_getUp {ρ : Type} {X : zX} (hX : zHX X) : zCS X (cc_X8_getUp (ρ := ρ)) := by
  intro n σ av q r h hv
  unfold cc_X8_getUp at h
  by_cases e_X8_keepWhy : n = 80
  · rw [if_pos e_X8_keepWhy] at h
    subst e_X8_keepWhy
    exact c_X8_keepWhy hX h hv
  rw [if_neg e_X8_keepWhy] at h
  cases h
theorem cl_X8_getUp_X8_keepWhy {ρ : Type} (σ : zH) (av : List zAV) (q : zH → zAV → Option ρ) : cc_X8_getUp 80 σ av q = g_X8_keepWhy σ av q := rfl
theorem hy_X8_getUp {ρ : Type} {X : zX} (hX : zHX X) : zHY X 79 (cc_X8_getUp (ρ := ρ)) := zHX.hY hX (cs_X8_getUp hX) (zmok_all 79 (by decide))
theorem t_X8_getUp_0 {G : Nat → zH → List zAV → List zAV → Option zH} (es : List zEnt) (σ : zH) (i0 : Nat) (x1 : Int32) (x2 : Int32) (x3 : Int32)  (w5 : Int32) (w8 : Int32) : zev cc_X8_getUp G 9 krV (zE 0 (.aload_n 0) 1 :: zE 1 .dup 1 :: zEf 2 (.getfield 54) 3 8 4 96 (0, 0, 0) :: zEk 5 (.iconst 1) 1 w5 :: zE 6 (.iload_n 1) 1 :: zE 7 .ishl 1 :: zEk 8 (.iconst (-1)) 1 w8 :: zE 9 .ixor 1 :: zE 10 .iand 1 :: es) σ [vR 8 i0, vI x1, vI x2, vI x3] [] = zev cc_X8_getUp G 9 krV es σ [vR 8 i0, vI x1, vI x2, vI x3] [vI ((σ.1 8 i0 4) &&& ((w5 <<< (x1 &&& 31)) ^^^ w8)), vR 8 i0] := rfl
theorem t_X8_getUp_14 {G : Nat → zH → List zAV → List zAV → Option zH} (es : List zEnt) (σ : zH) (i0 : Nat) (x1 : Int32) (x2 : Int32) (x3 : Int32)   : zev cc_X8_getUp G 9 krV (zE 14 (.aload_n 0) 1 :: zE 15 .dup 1 :: zEf 16 (.getfield 65) 3 8 5 98 (0, 0, 0) :: zE 19 (.aload_n 0) 1 :: zEf 20 (.getfield 12) 3 8 0 84 (1, 0, 1) :: zEf 23 (.getfield 99) 3 0 1 38 (1, 12, 0) :: zE 26 (.iload_n 1) 1 :: es) σ [vR 8 i0, vI x1, vI x2, vI x3] [] = zev cc_X8_getUp G 9 krV es σ [vR 8 i0, vI x1, vI x2, vI x3] [vI x1, vR 12 ((i0 + 1) + 0), vI (σ.1 8 i0 5), vR 8 i0] := rfl
theorem t_X8_getUp_28 {G : Nat → zH → List zAV → List zAV → Option zH} (es : List zEnt) (σ : zH) (i0 : Nat) (x1 : Int32) (x2 : Int32) (x3 : Int32) (is0 : Nat) (xs1 : Int32) (xs2 : Int32)   : zev cc_X8_getUp G 9 krV (zE 28 .iadd 1 :: es) σ [vR 8 i0, vI x1, vI x2, vI x3] [vI xs2, vI xs1, vR 8 is0] = zev cc_X8_getUp G 9 krV es σ [vR 8 i0, vI x1, vI x2, vI x3] [vI (xs1 + xs2), vR 8 is0] := rfl
theorem t_X8_getUp_32 {G : Nat → zH → List zAV → List zAV → Option zH} (es : List zEnt) (σ : zH) (i0 : Nat) (x1 : Int32) (x2 : Int32) (x3 : Int32)   : zev cc_X8_getUp G 9 krV (zE 32 (.aload_n 0) 1 :: zEf 33 (.getfield 25) 3 8 8 104 (1, 33, 0) :: zE 36 (.iload_n 1) 1 :: zE 37 (.aload_n 0) 1 :: zEf 38 (.getfield 48) 3 8 1 88 (0, 0, 0) :: es) σ [vR 8 i0, vI x1, vI x2, vI x3] [] = zev cc_X8_getUp G 9 krV es σ [vR 8 i0, vI x1, vI x2, vI x3] [vI (σ.1 8 i0 1), vI x1, vR 33 (i0 + 0)] := rfl
theorem t_X8_getUp_42 {G : Nat → zH → List zAV → List zAV → Option zH} (es : List zEnt) (σ : zH) (i0 : Nat) (x1 : Int32) (x2 : Int32) (x3 : Int32)   : zev cc_X8_getUp G 9 krV (zE 42 (.aload_n 0) 1 :: zE 43 (.iload_n 1) 1 :: zE 44 (.iload_n 2) 1 :: zE 45 (.iload_n 3) 1 :: es) σ [vR 8 i0, vI x1, vI x2, vI x3] [] = zev cc_X8_getUp G 9 krV es σ [vR 8 i0, vI x1, vI x2, vI x3] [vI x3, vI x2, vI x1, vR 8 i0] := rfl
noncomputable def d_X8_getUp (σ : zH) (ia0 : Nat) (xa1 : Int32) (xa2 : Int32) (xa3 : Int32) : Option zH :=
  zlet (uI σ 8 ia0 4 ((σ.1 8 ia0 4) &&& (((1 : Int32) <<< (xa1 &&& 31)) ^^^ (-1 : Int32)))) fun σ1 =>
  ix xa1 12 fun j2 =>
  zlet (uI σ1 8 ia0 5 ((σ1.1 8 ia0 5) + (σ1.1 12 ((ia0 + 1) + 0) j2))) fun σ3 =>
  ix xa1 12 fun j6 =>
  zlet (uI σ3 33 (ia0 + 0) j6 (σ3.1 8 ia0 1)) fun σ4 =>
  (d_X8_keepWhy σ4 ia0 xa1 xa2 xa3).bind fun σ5 =>
  some σ5
theorem e_X8_getUp (σ : zH) (ia0 : Nat) (xa1 : Int32) (xa2 : Int32) (xa3 : Int32) : d_X8_getUp σ ia0 xa1 xa2 xa3 = zin cc_X8_getUp (fun t => none) 9 krV b_X8_getUp 0 σ [vR 8 ia0, vI xa1, vI xa2, vI xa3] [] := by
  unfold d_X8_getUp
  refine Eq.symm ((zin_b (es := q_X8_getUp_0) rfl).trans ?_)
  refine (t_X8_getUp_0 _ _ _ _ _ _ _ _).trans ?_
  refine x_pf0.trans (plt fun _ => ?_)
  refine (t_X8_getUp_14 _ _ _ _ _ _).trans ?_
  refine (x_iald (N := 12) rfl rfl).trans (pix fun _ => ?_)
  refine (t_X8_getUp_28 _ _ _ _ _ _ _ _ _).trans ?_
  refine x_pf0.trans (plt fun _ => ?_)
  refine (t_X8_getUp_32 _ _ _ _ _ _).trans ?_
  refine (x_iast (N := 12) rfl rfl).trans (pix fun _ => plt fun _ => ?_)
  refine (t_X8_getUp_42 _ _ _ _ _ _).trans ?_
  refine (x_callV rfl rfl rfl rfl).trans ((cl_X8_getUp_X8_keepWhy _ _ _).trans ((gr_X8_keepWhy _ _ _ _ _ _).trans (pbd fun _ => ?_)))
  exact x_vret
noncomputable def g_X8_getUp {ρ : Type} (σ : zH) (av : List zAV) (q : zH → zAV → Option ρ) : Option ρ := match av with
  | [.inr (.inr (.inl (8, ia0))), .inl xa1, .inl xa2, .inl xa3] => (d_X8_getUp σ ia0 xa1 xa2 xa3).bind fun σ => q σ vU
  | _ => none
theorem gr_X8_getUp {ρ : Type} (σ : zH) (ia0 : Nat) (xa1 : Int32) (xa2 : Int32) (xa3 : Int32) (q : zH → zAV → Option ρ) : g_X8_getUp σ [vR 8 ia0, vI xa1, vI xa2, vI xa3] q = (d_X8_getUp σ ia0 xa1 xa2 xa3).bind fun σ => q σ vU := rfl
theorem c_X8_getUp {ρ : Type} {X : zX} (hX : zHX X) {σ : zH} {av : List zAV} {q : zH → zAV → Option ρ} {r : ρ} (h : g_X8_getUp σ av q = some r) (hv : ∀ a ∈ av, zval X a) : zcon X 79 σ av q r := by
  unfold g_X8_getUp at h
  split at h
  · exact zcon_V (n := 79) (ml := 4) (rc := 9) (st := 0) (kd := 8) (np := 3) (by decide +kernel) rfl ⟨_, _, rfl, rfl⟩ (Nat.le_of_ble_eq_true rfl) hv h (fun y h1 => (zin_ok (hy_X8_getUp hX) bk_X8_getUp (fun t f hf => by
      cases hf) ((e_X8_getUp _ _ _ _ _).symm.trans h1)))
  · cases h
/-! SleepWaves$State.getUpBy(LSleepWaves$Law;I)V -/
def q_X8_getUpBy_0 : List zEnt := zEk 0 (.iconst 0) 1 0 :: zE 1 (.istore_n 3) 1 :: [zE 2 .nop 0]
def q_X8_getUpBy_21 : List zEnt := zEa 21 (.goto 79) 3 100 :: []
def q_X8_getUpBy_18 : List zEnt := zEa 18 (.ifCond .ne 6) 3 24 :: q_X8_getUpBy_21
def q_X8_getUpBy_13 : List zEnt := zE 13 (.iload_n 2) 1 :: zE 14 (.iload_n 3) 1 :: zE 15 .ishr 1 :: zEk 16 (.iconst 1) 1 1 :: zE 17 .iand 1 :: q_X8_getUpBy_18
def q_X8_getUpBy_10 : List zEnt := zEa 10 (.if_icmp .ge 96) 3 106 :: q_X8_getUpBy_13
def q_X8_getUpBy_2 : List zEnt := zE 2 (.iload_n 3) 1 :: zE 3 (.aload_n 0) 1 :: zEf 4 (.getfield 12) 3 8 0 84 (1, 0, 1) :: zEf 7 (.getfield 74) 3 0 0 31 (0, 0, 0) :: q_X8_getUpBy_10
def q_X8_getUpBy_55 : List zEnt := zEa 55 (.goto 45) 3 100 :: []
def q_X8_getUpBy_52 : List zEnt := zEc 52 (.invokevirtual 106) 3 79 4 65 1 :: q_X8_getUpBy_55
def q_X8_getUpBy_47 : List zEnt := zE 47 (.aload_n 0) 1 :: zE 48 (.iload_n 3) 1 :: zEk 49 (.iconst 4) 1 4 :: zE 50 (.iload 4) 2 :: q_X8_getUpBy_52
def q_X8_getUpBy_44 : List zEnt := zEa 44 (.if_icmp .eq 14) 3 58 :: q_X8_getUpBy_47
def q_X8_getUpBy_39 : List zEnt := zE 39 (.istore 4) 2 :: zE 41 (.iload 4) 2 :: zEk 43 (.iconst (-1)) 1 (-1) :: q_X8_getUpBy_44
def q_X8_getUpBy_36 : List zEnt := zEc 36 (.invokevirtual 129) 3 3 3 56 0 :: q_X8_getUpBy_39
def q_X8_getUpBy_35 : List zEnt := zE 35 .irem 1 :: q_X8_getUpBy_36
def q_X8_getUpBy_24 : List zEnt := zE 24 (.aload_n 0) 1 :: zEf 25 (.getfield 12) 3 8 0 84 (1, 0, 1) :: zE 28 (.iload_n 3) 1 :: zE 29 (.aload_n 0) 1 :: zEf 30 (.getfield 48) 3 8 1 88 (0, 0, 0) :: zEk 33 (.bipush 96) 2 96 :: q_X8_getUpBy_35
def q_X8_getUpBy_76 : List zEnt := zEa 76 (.goto 24) 3 100 :: []
def q_X8_getUpBy_73 : List zEnt := zEc 73 (.invokevirtual 106) 3 79 4 65 1 :: q_X8_getUpBy_76
def q_X8_getUpBy_69 : List zEnt := zE 69 (.aload_n 0) 1 :: zE 70 (.iload_n 3) 1 :: zEk 71 (.iconst 5) 1 5 :: zEk 72 (.iconst (-1)) 1 (-1) :: q_X8_getUpBy_73
def q_X8_getUpBy_66 : List zEnt := zEa 66 (.if_icmp .ge 13) 3 79 :: q_X8_getUpBy_69
def q_X8_getUpBy_58 : List zEnt := zE 58 (.aload_n 0) 1 :: zEf 59 (.getfield 48) 3 8 1 88 (0, 0, 0) :: zE 62 (.aload_n 0) 1 :: zEf 63 (.getfield 51) 3 8 3 93 (0, 0, 0) :: q_X8_getUpBy_66
def q_X8_getUpBy_103 : List zEnt := zEa 103 (.goto (-101)) 3 2 :: []
def q_X8_getUpBy_100 : List zEnt := zEk 100 (.iinc 3 1) 3 1 :: q_X8_getUpBy_103
def q_X8_getUpBy_97 : List zEnt := zEc 97 (.invokevirtual 106) 3 79 4 65 1 :: q_X8_getUpBy_100
def q_X8_getUpBy_89 : List zEnt := zE 89 (.aload_n 0) 1 :: zE 90 (.iload_n 3) 1 :: zEk 91 (.bipush 6) 2 6 :: zE 93 (.aload_n 0) 1 :: zEf 94 (.getfield 41) 3 8 16 122 (0, 0, 0) :: q_X8_getUpBy_97
def q_X8_getUpBy_86 : List zEnt := zEa 86 (.ifCond .eq 14) 3 100 :: q_X8_getUpBy_89
def q_X8_getUpBy_83 : List zEnt := zEc 83 (.invokevirtual 133) 3 36 4 57 0 :: q_X8_getUpBy_86
def q_X8_getUpBy_79 : List zEnt := zE 79 (.aload_n 1) 1 :: zEk 80 (.iconst 0) 1 0 :: zE 81 (.aload_n 0) 1 :: zE 82 (.iload_n 3) 1 :: q_X8_getUpBy_83
def q_X8_getUpBy_106 : List zEnt := zE 106 .return_ 1 :: []
def b_X8_getUpBy : List (Nat × List zEnt) := [(0, q_X8_getUpBy_0), (2, q_X8_getUpBy_2), (24, q_X8_getUpBy_24), (58, q_X8_getUpBy_58), (79, q_X8_getUpBy_79), (100, q_X8_getUpBy_100), (106, q_X8_getUpBy_106)]
theorem bk_X8_getUpBy : zchB 84 b_X8_getUpBy = true := by decide +kernel
noncomputable def cc_X8_getUpBy {ρ : Type} : Nat → zH → List zAV → (zH → zAV → Option ρ) → Option ρ := fun n σ av q => if n = 3 then g_X0_firstDuty σ av q else if n = 79 then g_X8_getUp σ av q else if n = 36 then g_X4_holds σ av q else none
theorem cs_X8_getUpBy {ρ : Type} {X : zX} (hX : zHX X) : zCS X (cc_X8_getUpBy (ρ := ρ)) := by
  intro n σ av q r h hv
  unfold cc_X8_getUpBy at h
  by_cases e_X0_firstDuty : n = 3
  · rw [if_pos e_X0_firstDuty] at h
    subst e_X0_firstDuty
    exact c_X0_firstDuty hX h hv
  rw [if_neg e_X0_firstDuty] at h
  by_cases e_X8_getUp : n = 79
  · rw [if_pos e_X8_getUp] at h
    subst e_X8_getUp
    exact c_X8_getUp hX h hv
  rw [if_neg e_X8_getUp] at h
  by_cases e_X4_holds : n = 36
  · rw [if_pos e_X4_holds] at h
    subst e_X4_holds
    exact c_X4_holds hX h hv
  rw [if_neg e_X4_holds] at h
  cases h
theorem cl_X8_getUpBy_X0_firstDuty {ρ : Type} (σ : zH) (av : List zAV) (q : zH → zAV → Option ρ) : cc_X8_getUpBy 3 σ av q = g_X0_firstDuty σ av q := rfl
theorem cl_X8_getUpBy_X8_getUp {ρ : Type} (σ : zH) (av : List zAV) (q : zH → zAV → Option ρ) : cc_X8_getUpBy 79 σ av q = g_X8_getUp σ av q := rfl
theorem cl_X8_getUpBy_X4_holds {ρ : Type} (σ : zH) (av : List zAV) (q : zH → zAV → Option ρ) : cc_X8_getUpBy 36 σ av q = g_X4_holds σ av q := rfl
theorem hy_X8_getUpBy {ρ : Type} {X : zX} (hX : zHX X) : zHY X 84 (cc_X8_getUpBy (ρ := ρ)) := zHX.hY hX (cs_X8_getUpBy hX) (zmok_all 84 (by decide))
def gl_X8_getUpBy_2 {ρ : Type} (f : zH → Nat → Nat → Int32 → Int32 → Option ρ) (σ : zH) (L st : List zAV) : Option ρ := match L, st with
  | [.inr (.inr (.inl (8, i0))), .inr (.inr (.inl (4, i1))), .inl x2, .inl x3, _], [] => f σ i0 i1 x2 x3
  | _, _ => none
theorem glr_X8_getUpBy_2 {ρ : Type} (f : zH → Nat → Nat → Int32 → Int32 → Option ρ) (σ : zH) (i0 : Nat) (i1 : Nat) (x2 : Int32) (x3 : Int32) (y4 : zAV) : gl_X8_getUpBy_2 f σ [vR 8 i0, vR 4 i1, vI x2, vI x3, y4] [] = f σ i0 i1 x2 x3 := rfl
theorem t_X8_getUpBy_0 {G : Nat → zH → List zAV → List zAV → Option zH} (es : List zEnt) (σ : zH) (i0 : Nat) (i1 : Nat) (x2 : Int32) (y3 : zAV) (y4 : zAV) (w0 : Int32) : zev cc_X8_getUpBy G 9 krV (zEk 0 (.iconst 0) 1 w0 :: zE 1 (.istore_n 3) 1 :: es) σ [vR 8 i0, vR 4 i1, vI x2, y3, y4] [] = zev cc_X8_getUpBy G 9 krV es σ [vR 8 i0, vR 4 i1, vI x2, vI w0, y4] [] := rfl
theorem t_X8_getUpBy_2 {G : Nat → zH → List zAV → List zAV → Option zH} (es : List zEnt) (σ : zH) (i0 : Nat) (i1 : Nat) (x2 : Int32) (x3 : Int32) (y4 : zAV)  : zev cc_X8_getUpBy G 9 krV (zE 2 (.iload_n 3) 1 :: zE 3 (.aload_n 0) 1 :: zEf 4 (.getfield 12) 3 8 0 84 (1, 0, 1) :: zEf 7 (.getfield 74) 3 0 0 31 (0, 0, 0) :: es) σ [vR 8 i0, vR 4 i1, vI x2, vI x3, y4] [] = zev cc_X8_getUpBy G 9 krV es σ [vR 8 i0, vR 4 i1, vI x2, vI x3, y4] [vI (σ.1 0 (i0 + 1) 0), vI x3] := rfl
theorem t_X8_getUpBy_13 {G : Nat → zH → List zAV → List zAV → Option zH} (es : List zEnt) (σ : zH) (i0 : Nat) (i1 : Nat) (x2 : Int32) (x3 : Int32) (y4 : zAV) (w16 : Int32) : zev cc_X8_getUpBy G 9 krV (zE 13 (.iload_n 2) 1 :: zE 14 (.iload_n 3) 1 :: zE 15 .ishr 1 :: zEk 16 (.iconst 1) 1 w16 :: zE 17 .iand 1 :: es) σ [vR 8 i0, vR 4 i1, vI x2, vI x3, y4] [] = zev cc_X8_getUpBy G 9 krV es σ [vR 8 i0, vR 4 i1, vI x2, vI x3, y4] [vI ((x2 >>> (x3 &&& 31)) &&& w16)] := rfl
theorem t_X8_getUpBy_24 {G : Nat → zH → List zAV → List zAV → Option zH} (es : List zEnt) (σ : zH) (i0 : Nat) (i1 : Nat) (x2 : Int32) (x3 : Int32) (y4 : zAV) (w33 : Int32) : zev cc_X8_getUpBy G 9 krV (zE 24 (.aload_n 0) 1 :: zEf 25 (.getfield 12) 3 8 0 84 (1, 0, 1) :: zE 28 (.iload_n 3) 1 :: zE 29 (.aload_n 0) 1 :: zEf 30 (.getfield 48) 3 8 1 88 (0, 0, 0) :: zEk 33 (.bipush 96) 2 w33 :: es) σ [vR 8 i0, vR 4 i1, vI x2, vI x3, y4] [] = zev cc_X8_getUpBy G 9 krV es σ [vR 8 i0, vR 4 i1, vI x2, vI x3, y4] [vI w33, vI (σ.1 8 i0 1), vI x3, vR 0 (i0 + 1)] := rfl
theorem t_X8_getUpBy_39 {G : Nat → zH → List zAV → List zAV → Option zH} (es : List zEnt) (σ : zH) (i0 : Nat) (i1 : Nat) (x2 : Int32) (x3 : Int32) (xs0 : Int32) (y4 : zAV) (w43 : Int32) : zev cc_X8_getUpBy G 9 krV (zE 39 (.istore 4) 2 :: zE 41 (.iload 4) 2 :: zEk 43 (.iconst (-1)) 1 w43 :: es) σ [vR 8 i0, vR 4 i1, vI x2, vI x3, y4] [vI xs0] = zev cc_X8_getUpBy G 9 krV es σ [vR 8 i0, vR 4 i1, vI x2, vI x3, vI xs0] [vI w43, vI xs0] := rfl
theorem t_X8_getUpBy_47 {G : Nat → zH → List zAV → List zAV → Option zH} (es : List zEnt) (σ : zH) (i0 : Nat) (i1 : Nat) (x2 : Int32) (x3 : Int32) (x4 : Int32)  (w49 : Int32) : zev cc_X8_getUpBy G 9 krV (zE 47 (.aload_n 0) 1 :: zE 48 (.iload_n 3) 1 :: zEk 49 (.iconst 4) 1 w49 :: zE 50 (.iload 4) 2 :: es) σ [vR 8 i0, vR 4 i1, vI x2, vI x3, vI x4] [] = zev cc_X8_getUpBy G 9 krV es σ [vR 8 i0, vR 4 i1, vI x2, vI x3, vI x4] [vI x4, vI w49, vI x3, vR 8 i0] := rfl
theorem t_X8_getUpBy_58 {G : Nat → zH → List zAV → List zAV → Option zH} (es : List zEnt) (σ : zH) (i0 : Nat) (i1 : Nat) (x2 : Int32) (x3 : Int32) (y4 : zAV)  : zev cc_X8_getUpBy G 9 krV (zE 58 (.aload_n 0) 1 :: zEf 59 (.getfield 48) 3 8 1 88 (0, 0, 0) :: zE 62 (.aload_n 0) 1 :: zEf 63 (.getfield 51) 3 8 3 93 (0, 0, 0) :: es) σ [vR 8 i0, vR 4 i1, vI x2, vI x3, y4] [] = zev cc_X8_getUpBy G 9 krV es σ [vR 8 i0, vR 4 i1, vI x2, vI x3, y4] [vI (σ.1 8 i0 3), vI (σ.1 8 i0 1)] := rfl
theorem t_X8_getUpBy_69 {G : Nat → zH → List zAV → List zAV → Option zH} (es : List zEnt) (σ : zH) (i0 : Nat) (i1 : Nat) (x2 : Int32) (x3 : Int32) (y4 : zAV) (w71 : Int32) (w72 : Int32) : zev cc_X8_getUpBy G 9 krV (zE 69 (.aload_n 0) 1 :: zE 70 (.iload_n 3) 1 :: zEk 71 (.iconst 5) 1 w71 :: zEk 72 (.iconst (-1)) 1 w72 :: es) σ [vR 8 i0, vR 4 i1, vI x2, vI x3, y4] [] = zev cc_X8_getUpBy G 9 krV es σ [vR 8 i0, vR 4 i1, vI x2, vI x3, y4] [vI w72, vI w71, vI x3, vR 8 i0] := rfl
theorem t_X8_getUpBy_79 {G : Nat → zH → List zAV → List zAV → Option zH} (es : List zEnt) (σ : zH) (i0 : Nat) (i1 : Nat) (x2 : Int32) (x3 : Int32) (y4 : zAV) (w80 : Int32) : zev cc_X8_getUpBy G 9 krV (zE 79 (.aload_n 1) 1 :: zEk 80 (.iconst 0) 1 w80 :: zE 81 (.aload_n 0) 1 :: zE 82 (.iload_n 3) 1 :: es) σ [vR 8 i0, vR 4 i1, vI x2, vI x3, y4] [] = zev cc_X8_getUpBy G 9 krV es σ [vR 8 i0, vR 4 i1, vI x2, vI x3, y4] [vI x3, vR 8 i0, vI w80, vR 4 i1] := rfl
theorem t_X8_getUpBy_89 {G : Nat → zH → List zAV → List zAV → Option zH} (es : List zEnt) (σ : zH) (i0 : Nat) (i1 : Nat) (x2 : Int32) (x3 : Int32) (y4 : zAV) (w91 : Int32) : zev cc_X8_getUpBy G 9 krV (zE 89 (.aload_n 0) 1 :: zE 90 (.iload_n 3) 1 :: zEk 91 (.bipush 6) 2 w91 :: zE 93 (.aload_n 0) 1 :: zEf 94 (.getfield 41) 3 8 16 122 (0, 0, 0) :: es) σ [vR 8 i0, vR 4 i1, vI x2, vI x3, y4] [] = zev cc_X8_getUpBy G 9 krV es σ [vR 8 i0, vR 4 i1, vI x2, vI x3, y4] [vI (σ.1 8 i0 16), vI w91, vI x3, vR 8 i0] := rfl
theorem t_X8_getUpBy_100 {G : Nat → zH → List zAV → List zAV → Option zH} (es : List zEnt) (σ : zH) (i0 : Nat) (i1 : Nat) (x2 : Int32) (x3 : Int32) (y4 : zAV) (w100 : Int32) : zev cc_X8_getUpBy G 9 krV (zEk 100 (.iinc 3 1) 3 w100 :: es) σ [vR 8 i0, vR 4 i1, vI x2, vI x3, y4] [] = zev cc_X8_getUpBy G 9 krV es σ [vR 8 i0, vR 4 i1, vI x2, vI (x3 + w100), y4] [] := rfl
noncomputable def k_X8_getUpBy_2  : Nat → zH → Nat → Nat → Int32 → Int32 → Option zH
  | 0, _, _, _, _, _ => none
  | n + 1, σ, i0, i1, x2, x3 =>
    if x3 < (σ.1 0 (i0 + 1) 0) then
      if ((x2 >>> (x3 &&& 31)) &&& (1 : Int32)) = 0 then
        (k_X8_getUpBy_2 n) σ i0 i1 x2 (x3 + (1 : Int32))
      else
        (d_X0_firstDuty σ (i0 + 1) x3 ((σ.1 8 i0 1) - (σ.1 8 i0 1) / (96 : Int32) * (96 : Int32))).bind fun p1 =>
        if p1.2 = (-1 : Int32) then
          if (p1.1.1 8 i0 1) < (p1.1.1 8 i0 3) then
            (d_X8_getUp p1.1 i0 x3 (5 : Int32) (-1 : Int32)).bind fun σ4 =>
            (k_X8_getUpBy_2 n) σ4 i0 i1 x2 (x3 + (1 : Int32))
          else
            (d_X4_holds p1.1 i1 (0 : Int32) i0 x3).bind fun p2 =>
            if p2.2 = 0 then
              (k_X8_getUpBy_2 n) p2.1 i0 i1 x2 (x3 + (1 : Int32))
            else
              (d_X8_getUp p2.1 i0 x3 (6 : Int32) (p2.1.1 8 i0 16)).bind fun σ3 =>
              (k_X8_getUpBy_2 n) σ3 i0 i1 x2 (x3 + (1 : Int32))
        else
          (d_X8_getUp p1.1 i0 x3 (4 : Int32) p1.2).bind fun σ5 =>
          (k_X8_getUpBy_2 n) σ5 i0 i1 x2 (x3 + (1 : Int32))
    else
      some σ
theorem e_X8_getUpBy_2  (n : Nat) (σ : zH) (i0 : Nat) (i1 : Nat) (x2 : Int32) (x3 : Int32) (y4 : zAV) : k_X8_getUpBy_2 (n + 1) σ i0 i1 x2 x3 = zin cc_X8_getUpBy (fun t => if t = 2 then some (gl_X8_getUpBy_2 (k_X8_getUpBy_2 n)) else none) 9 krV b_X8_getUpBy 2 σ [vR 8 i0, vR 4 i1, vI x2, vI x3, y4] [] := by
  rw [k_X8_getUpBy_2]
  refine Eq.symm ((zin_b (es := q_X8_getUpBy_2) rfl).trans ?_)
  refine (t_X8_getUpBy_2 _ _ _ _ _ _ _).trans ?_
  refine x_icmp.trans (pif_ge ?_ ?_)
  · refine (zrun_b (es := q_X8_getUpBy_106) rfl rfl).trans ?_
    exact x_vret
  · refine (t_X8_getUpBy_13 _ _ _ _ _ _ _ _).trans ?_
    refine x_if.trans (pif_ne ?_ ?_)
    · refine (zrun_b (es := q_X8_getUpBy_24) rfl rfl).trans ?_
      refine (t_X8_getUpBy_24 _ _ _ _ _ _ _ _).trans ?_
      refine (x_irem.trans (nz_l (by decide +kernel))).trans ?_
      refine (x_callV rfl rfl rfl rfl).trans ((cl_X8_getUpBy_X0_firstDuty _ _ _).trans ((gr_X0_firstDuty _ _ _ _ _).trans (pbd fun _ => ?_)))
      refine (t_X8_getUpBy_39 _ _ _ _ _ _ _ _ _).trans ?_
      refine x_icmp.trans (pif_eq ?_ ?_)
      · refine (zrun_b (es := q_X8_getUpBy_58) rfl rfl).trans ?_
        refine (t_X8_getUpBy_58 _ _ _ _ _ _ _).trans ?_
        refine x_icmp.trans (pif_ge ?_ ?_)
        · refine (zrun_b (es := q_X8_getUpBy_79) rfl rfl).trans ?_
          refine (t_X8_getUpBy_79 _ _ _ _ _ _ _ _).trans ?_
          refine (x_callV rfl rfl rfl rfl).trans ((cl_X8_getUpBy_X4_holds _ _ _).trans ((gr_X4_holds _ _ _ _ _ _).trans (pbd fun _ => ?_)))
          refine x_if.trans (pif_eq ?_ ?_)
          · refine (zrun_b (es := q_X8_getUpBy_100) rfl rfl).trans ?_
            refine (t_X8_getUpBy_100 _ _ _ _ _ _ _ _).trans ?_
            refine x_goto.trans ?_
            exact (zrun_c rfl).trans (glr_X8_getUpBy_2 _ _ _ _ _ _ _)
          · refine (t_X8_getUpBy_89 _ _ _ _ _ _ _ _).trans ?_
            refine (x_callV rfl rfl rfl rfl).trans ((cl_X8_getUpBy_X8_getUp _ _ _).trans ((gr_X8_getUp _ _ _ _ _ _).trans (pbd fun _ => ?_)))
            refine (t_X8_getUpBy_100 _ _ _ _ _ _ _ _).trans ?_
            refine x_goto.trans ?_
            exact (zrun_c rfl).trans (glr_X8_getUpBy_2 _ _ _ _ _ _ _)
        · refine (t_X8_getUpBy_69 _ _ _ _ _ _ _ _ _).trans ?_
          refine (x_callV rfl rfl rfl rfl).trans ((cl_X8_getUpBy_X8_getUp _ _ _).trans ((gr_X8_getUp _ _ _ _ _ _).trans (pbd fun _ => ?_)))
          refine x_goto.trans ?_
          refine (zrun_b (es := q_X8_getUpBy_100) rfl rfl).trans ?_
          refine (t_X8_getUpBy_100 _ _ _ _ _ _ _ _).trans ?_
          refine x_goto.trans ?_
          exact (zrun_c rfl).trans (glr_X8_getUpBy_2 _ _ _ _ _ _ _)
      · refine (t_X8_getUpBy_47 _ _ _ _ _ _ _ _).trans ?_
        refine (x_callV rfl rfl rfl rfl).trans ((cl_X8_getUpBy_X8_getUp _ _ _).trans ((gr_X8_getUp _ _ _ _ _ _).trans (pbd fun _ => ?_)))
        refine x_goto.trans ?_
        refine (zrun_b (es := q_X8_getUpBy_100) rfl rfl).trans ?_
        refine (t_X8_getUpBy_100 _ _ _ _ _ _ _ _).trans ?_
        refine x_goto.trans ?_
        exact (zrun_c rfl).trans (glr_X8_getUpBy_2 _ _ _ _ _ _ _)
    · refine x_goto.trans ?_
      refine (zrun_b (es := q_X8_getUpBy_100) rfl rfl).trans ?_
      refine (t_X8_getUpBy_100 _ _ _ _ _ _ _ _).trans ?_
      refine x_goto.trans ?_
      exact (zrun_c rfl).trans (glr_X8_getUpBy_2 _ _ _ _ _ _ _)
theorem s_X8_getUpBy_2 {X : zX} (hX : zHX X)   : ∀ n σ L st r, gl_X8_getUpBy_2 (k_X8_getUpBy_2 n) σ L st = some r → zGW X 84 krV 2 σ L st r := by
  intro n
  induction n with
  | zero =>
    intro σ L st r h
    unfold gl_X8_getUpBy_2 at h
    split at h <;> cases h
  | succ n ih =>
    intro σ L st r h
    unfold gl_X8_getUpBy_2 at h
    split at h
    · exact zin_ok (hy_X8_getUpBy hX) bk_X8_getUpBy (fun t f hf => by
      by_cases e2 : t = 2
      · rw [if_pos e2] at hf; subst e2; cases hf; exact ih
      rw [if_neg e2] at hf
      cases hf) ((e_X8_getUpBy_2 _ _ _ _ _ _ _).symm.trans h)
    · cases h
noncomputable def d_X8_getUpBy (σ : zH) (ia0 : Nat) (ia1 : Nat) (xa2 : Int32) : Option zH :=
  (k_X8_getUpBy_2 zN) σ ia0 ia1 xa2 (0 : Int32)
theorem e_X8_getUpBy (σ : zH) (ia0 : Nat) (ia1 : Nat) (xa2 : Int32) : d_X8_getUpBy σ ia0 ia1 xa2 = zin cc_X8_getUpBy (fun t => if t = 2 then some (gl_X8_getUpBy_2 (k_X8_getUpBy_2 zN)) else none) 9 krV b_X8_getUpBy 0 σ [vR 8 ia0, vR 4 ia1, vI xa2, vU, vU] [] := by
  unfold d_X8_getUpBy
  refine Eq.symm ((zin_b (es := q_X8_getUpBy_0) rfl).trans ?_)
  refine (t_X8_getUpBy_0 _ _ _ _ _ _ _ _).trans ?_
  refine x_cut.trans ?_
  exact (zrun_c rfl).trans (glr_X8_getUpBy_2 _ _ _ _ _ _ _)
noncomputable def g_X8_getUpBy {ρ : Type} (σ : zH) (av : List zAV) (q : zH → zAV → Option ρ) : Option ρ := match av with
  | [.inr (.inr (.inl (8, ia0))), .inr (.inr (.inl (4, ia1))), .inl xa2] => (d_X8_getUpBy σ ia0 ia1 xa2).bind fun σ => q σ vU
  | _ => none
theorem gr_X8_getUpBy {ρ : Type} (σ : zH) (ia0 : Nat) (ia1 : Nat) (xa2 : Int32) (q : zH → zAV → Option ρ) : g_X8_getUpBy σ [vR 8 ia0, vR 4 ia1, vI xa2] q = (d_X8_getUpBy σ ia0 ia1 xa2).bind fun σ => q σ vU := rfl
theorem c_X8_getUpBy {ρ : Type} {X : zX} (hX : zHX X) {σ : zH} {av : List zAV} {q : zH → zAV → Option ρ} {r : ρ} (h : g_X8_getUpBy σ av q = some r) (hv : ∀ a ∈ av, zval X a) : zcon X 84 σ av q r := by
  unfold g_X8_getUpBy at h
  split at h
  · exact zcon_V (n := 84) (ml := 5) (rc := 9) (st := 0) (kd := 8) (np := 2) (by decide +kernel) rfl ⟨_, _, rfl, rfl⟩ (Nat.le_of_ble_eq_true rfl) hv h (fun y h1 => (zin_ok (hy_X8_getUpBy hX) bk_X8_getUpBy (fun t f hf => by
      by_cases e2 : t = 2
      · rw [if_pos e2] at hf; subst e2; cases hf; exact ((fun σ L st r h => s_X8_getUpBy_2 hX  zN σ L st r h))
      rw [if_neg e2] at hf
      cases hf) ((e_X8_getUpBy _ _ _ _).symm.trans h1)))
  · cases h
/-! SleepWaves$State.draw()I -/
def q_X8_draw_25 : List zEnt := zE 25 .ireturn 1 :: []
def q_X8_draw_24 : List zEnt := zE 24 .idiv 1 :: q_X8_draw_25
def q_X8_draw_18 : List zEnt := zE 18 (.aload_n 0) 1 :: zEf 19 (.getfield 83) 3 8 2 91 (0, 0, 0) :: (22, (.ldc 156), 2, (0, 0, 866, 0), (0, 0, 0), 65536, 0, []) :: q_X8_draw_24
def q_X8_draw_15 : List zEnt := zEf 15 (.putfield 83) 3 8 2 91 (0, 0, 0) :: q_X8_draw_18
def q_X8_draw_0 : List zEnt := zE 0 (.aload_n 0) 1 :: zE 1 (.aload_n 0) 1 :: zEf 2 (.getfield 83) 3 8 2 91 (0, 0, 0) :: (5, (.ldc 154), 2, (0, 0, 864, 0), (0, 0, 0), 1103515245, 0, []) :: zE 7 .imul 1 :: zEk 8 (.sipush 12345) 3 12345 :: zE 11 .iadd 1 :: (12, (.ldc 155), 2, (0, 0, 865, 0), (0, 0, 0), 2147483647, 0, []) :: zE 14 .iand 1 :: q_X8_draw_15
def b_X8_draw : List (Nat × List zEnt) := [(0, q_X8_draw_0)]
theorem bk_X8_draw : zchB 86 b_X8_draw = true := by decide +kernel
theorem hy_X8_draw {ρ : Type} {X : zX} (hX : zHX X) : zHY X 86 (zc0 (ρ := ρ)) := zHX.hY hX (zc0_ok X) (zmok_all 86 (by decide))
theorem t_X8_draw_0 {G : Nat → zH → List zAV → List zAV → Option (zH × Int32)} (es : List zEnt) (σ : zH) (i0 : Nat)  (w5 : Int32) (w8 : Int32) (w12 : Int32) : zev zc0 G 0 krI (zE 0 (.aload_n 0) 1 :: zE 1 (.aload_n 0) 1 :: zEf 2 (.getfield 83) 3 8 2 91 (0, 0, 0) :: (5, (.ldc 154), 2, (0, 0, 864, 0), (0, 0, 0), w5, 0, []) :: zE 7 .imul 1 :: zEk 8 (.sipush 12345) 3 w8 :: zE 11 .iadd 1 :: (12, (.ldc 155), 2, (0, 0, 865, 0), (0, 0, 0), w12, 0, []) :: zE 14 .iand 1 :: es) σ [vR 8 i0] [] = zev zc0 G 0 krI es σ [vR 8 i0] [vI ((((σ.1 8 i0 2) * w5) + w8) &&& w12), vR 8 i0] := rfl
theorem t_X8_draw_18 {G : Nat → zH → List zAV → List zAV → Option (zH × Int32)} (es : List zEnt) (σ : zH) (i0 : Nat)  (w22 : Int32) : zev zc0 G 0 krI (zE 18 (.aload_n 0) 1 :: zEf 19 (.getfield 83) 3 8 2 91 (0, 0, 0) :: (22, (.ldc 156), 2, (0, 0, 866, 0), (0, 0, 0), w22, 0, []) :: es) σ [vR 8 i0] [] = zev zc0 G 0 krI es σ [vR 8 i0] [vI w22, vI (σ.1 8 i0 2)] := rfl
noncomputable def d_X8_draw (σ : zH) (ia0 : Nat) : Option (zH × Int32) :=
  zlet (uI σ 8 ia0 2 ((((σ.1 8 ia0 2) * (1103515245 : Int32)) + (12345 : Int32)) &&& (2147483647 : Int32))) fun σ1 =>
  some (σ1, ((σ1.1 8 ia0 2) / (65536 : Int32)))
theorem e_X8_draw (σ : zH) (ia0 : Nat) : d_X8_draw σ ia0 = zin zc0 (fun t => none) 0 krI b_X8_draw 0 σ [vR 8 ia0] [] := by
  unfold d_X8_draw
  refine Eq.symm ((zin_b (es := q_X8_draw_0) rfl).trans ?_)
  refine (t_X8_draw_0 _ _ _ _ _ _).trans ?_
  refine x_pf0.trans (plt fun _ => ?_)
  refine (t_X8_draw_18 _ _ _ _).trans ?_
  refine (x_idiv.trans (nz_l (by decide +kernel))).trans ?_
  exact x_iret
noncomputable def g_X8_draw {ρ : Type} (σ : zH) (av : List zAV) (q : zH → zAV → Option ρ) : Option ρ := match av with
  | [.inr (.inr (.inl (8, ia0)))] => (d_X8_draw σ ia0).bind fun p => q p.1 (vI p.2)
  | _ => none
theorem gr_X8_draw {ρ : Type} (σ : zH) (ia0 : Nat) (q : zH → zAV → Option ρ) : g_X8_draw σ [vR 8 ia0] q = (d_X8_draw σ ia0).bind fun p => q p.1 (vI p.2) := rfl
theorem c_X8_draw {ρ : Type} {X : zX} (hX : zHX X) {σ : zH} {av : List zAV} {q : zH → zAV → Option ρ} {r : ρ} (h : g_X8_draw σ av q = some r) (hv : ∀ a ∈ av, zval X a) : zcon X 86 σ av q r := by
  unfold g_X8_draw at h
  split at h
  · exact zcon_I (n := 86) (ml := 1) (rc := 0) (st := 0) (kd := 8) (np := 0) (by decide +kernel) (by decide) ⟨_, _, rfl, rfl⟩ (Nat.le_of_ble_eq_true rfl) hv h (fun y h1 => (zin_ok (hy_X8_draw hX) bk_X8_draw (fun t f hf => by
      cases hf) ((e_X8_draw _ _).symm.trans h1)))
  · cases h
/-! SleepWaves$State.wakeNextTo(I)V -/
def q_X8_wakeNextTo_0 : List zEnt := zEk 0 (.iconst 1) 1 1 :: zE 1 (.istore_n 2) 1 :: [zE 2 .nop 0]
def q_X8_wakeNextTo_29 : List zEnt := zEa 29 (.goto 12) 3 41 :: []
def q_X8_wakeNextTo_28 : List zEnt := zE 28 (.iload_n 3) 1 :: q_X8_wakeNextTo_29
def q_X8_wakeNextTo_25 : List zEnt := zEa 25 (.if_icmp .ge 7) 3 32 :: q_X8_wakeNextTo_28
def q_X8_wakeNextTo_13 : List zEnt := zE 13 (.iload_n 1) 1 :: zE 14 (.iload_n 2) 1 :: zE 15 .iadd 1 :: zE 16 (.istore_n 3) 1 :: zE 17 (.iload_n 3) 1 :: zE 18 (.aload_n 0) 1 :: zEf 19 (.getfield 12) 3 8 0 84 (1, 0, 1) :: zEf 22 (.getfield 74) 3 0 0 31 (0, 0, 0) :: q_X8_wakeNextTo_25
def q_X8_wakeNextTo_10 : List zEnt := zEa 10 (.if_icmp .ge 80) 3 90 :: q_X8_wakeNextTo_13
def q_X8_wakeNextTo_2 : List zEnt := zE 2 (.iload_n 2) 1 :: zE 3 (.aload_n 0) 1 :: zEf 4 (.getfield 12) 3 8 0 84 (1, 0, 1) :: zEf 7 (.getfield 74) 3 0 0 31 (0, 0, 0) :: q_X8_wakeNextTo_10
def q_X8_wakeNextTo_32 : List zEnt := zE 32 (.iload_n 3) 1 :: zE 33 (.aload_n 0) 1 :: zEf 34 (.getfield 12) 3 8 0 84 (1, 0, 1) :: zEf 37 (.getfield 74) 3 0 0 31 (0, 0, 0) :: zE 40 .isub 1 :: [zE 41 .nop 0]
def q_X8_wakeNextTo_71 : List zEnt := zEa 71 (.if_icmp .ne 13) 3 84 :: [zE 74 .nop 0]
def q_X8_wakeNextTo_70 : List zEnt := zE 70 .iaload 1 :: q_X8_wakeNextTo_71
def q_X8_wakeNextTo_62 : List zEnt := zE 62 (.aload_n 0) 1 :: zEf 63 (.getfield 12) 3 8 0 84 (1, 0, 1) :: zEf 66 (.getfield 157) 3 0 2 44 (1, 13, 0) :: zE 69 (.iload_n 1) 1 :: q_X8_wakeNextTo_70
def q_X8_wakeNextTo_61 : List zEnt := zE 61 .iaload 1 :: q_X8_wakeNextTo_62
def q_X8_wakeNextTo_52 : List zEnt := zE 52 (.aload_n 0) 1 :: zEf 53 (.getfield 12) 3 8 0 84 (1, 0, 1) :: zEf 56 (.getfield 157) 3 0 2 44 (1, 13, 0) :: zE 59 (.iload 4) 2 :: q_X8_wakeNextTo_61
def q_X8_wakeNextTo_49 : List zEnt := zEa 49 (.ifCond .eq 35) 3 84 :: q_X8_wakeNextTo_52
def q_X8_wakeNextTo_46 : List zEnt := zEc 46 (.invokevirtual 92) 3 73 2 54 0 :: q_X8_wakeNextTo_49
def q_X8_wakeNextTo_41 : List zEnt := zE 41 (.istore 4) 2 :: zE 43 (.aload_n 0) 1 :: zE 44 (.iload 4) 2 :: q_X8_wakeNextTo_46
def q_X8_wakeNextTo_83 : List zEnt := zE 83 .return_ 1 :: []
def q_X8_wakeNextTo_80 : List zEnt := zEc 80 (.invokevirtual 106) 3 79 4 65 1 :: q_X8_wakeNextTo_83
def q_X8_wakeNextTo_74 : List zEnt := zE 74 (.aload_n 0) 1 :: zE 75 (.iload 4) 2 :: zEk 77 (.bipush 7) 2 7 :: zE 79 (.iload_n 1) 1 :: q_X8_wakeNextTo_80
def q_X8_wakeNextTo_87 : List zEnt := zEa 87 (.goto (-85)) 3 2 :: []
def q_X8_wakeNextTo_84 : List zEnt := zEk 84 (.iinc 2 1) 3 1 :: q_X8_wakeNextTo_87
def q_X8_wakeNextTo_90 : List zEnt := zE 90 .return_ 1 :: []
def b_X8_wakeNextTo : List (Nat × List zEnt) := [(0, q_X8_wakeNextTo_0), (2, q_X8_wakeNextTo_2), (32, q_X8_wakeNextTo_32), (41, q_X8_wakeNextTo_41), (74, q_X8_wakeNextTo_74), (84, q_X8_wakeNextTo_84), (90, q_X8_wakeNextTo_90)]
theorem bk_X8_wakeNextTo : zchB 87 b_X8_wakeNextTo = true := by decide +kernel
noncomputable def cc_X8_wakeNextTo {ρ : Type} : Nat → zH → List zAV → (zH → zAV → Option ρ) → Option ρ := fun n σ av q => if n = 73 then g_X8_isAsleep σ av q else if n = 79 then g_X8_getUp σ av q else none
theorem cs_X8_wakeNextTo {ρ : Type} {X : zX} (hX : zHX X) : zCS X (cc_X8_wakeNextTo (ρ := ρ)) := by
  intro n σ av q r h hv
  unfold cc_X8_wakeNextTo at h
  by_cases e_X8_isAsleep : n = 73
  · rw [if_pos e_X8_isAsleep] at h
    subst e_X8_isAsleep
    exact c_X8_isAsleep hX h hv
  rw [if_neg e_X8_isAsleep] at h
  by_cases e_X8_getUp : n = 79
  · rw [if_pos e_X8_getUp] at h
    subst e_X8_getUp
    exact c_X8_getUp hX h hv
  rw [if_neg e_X8_getUp] at h
  cases h
theorem cl_X8_wakeNextTo_X8_isAsleep {ρ : Type} (σ : zH) (av : List zAV) (q : zH → zAV → Option ρ) : cc_X8_wakeNextTo 73 σ av q = g_X8_isAsleep σ av q := rfl
theorem cl_X8_wakeNextTo_X8_getUp {ρ : Type} (σ : zH) (av : List zAV) (q : zH → zAV → Option ρ) : cc_X8_wakeNextTo 79 σ av q = g_X8_getUp σ av q := rfl
theorem hy_X8_wakeNextTo {ρ : Type} {X : zX} (hX : zHX X) : zHY X 87 (cc_X8_wakeNextTo (ρ := ρ)) := zHX.hY hX (cs_X8_wakeNextTo hX) (zmok_all 87 (by decide))
def gl_X8_wakeNextTo_2 {ρ : Type} (f : zH → Nat → Int32 → Int32 → Option ρ) (σ : zH) (L st : List zAV) : Option ρ := match L, st with
  | [.inr (.inr (.inl (8, i0))), .inl x1, .inl x2, _, _], [] => f σ i0 x1 x2
  | _, _ => none
def gl_X8_wakeNextTo_41 {ρ : Type} (f : zH → Nat → Int32 → Int32 → Int32 → Option ρ) (σ : zH) (L st : List zAV) : Option ρ := match L, st with
  | [.inr (.inr (.inl (8, i0))), .inl x1, .inl x2, _, _], [.inl xs0] => f σ i0 x1 x2 xs0
  | _, _ => none
def gl_X8_wakeNextTo_74 {ρ : Type} (f : zH → Nat → Int32 → Int32 → Option ρ) (σ : zH) (L st : List zAV) : Option ρ := match L, st with
  | [.inr (.inr (.inl (8, i0))), .inl x1, _, _, .inl x4], [] => f σ i0 x1 x4
  | _, _ => none
theorem glr_X8_wakeNextTo_2 {ρ : Type} (f : zH → Nat → Int32 → Int32 → Option ρ) (σ : zH) (i0 : Nat) (x1 : Int32) (x2 : Int32) (y3 : zAV) (y4 : zAV) : gl_X8_wakeNextTo_2 f σ [vR 8 i0, vI x1, vI x2, y3, y4] [] = f σ i0 x1 x2 := rfl
theorem glr_X8_wakeNextTo_41 {ρ : Type} (f : zH → Nat → Int32 → Int32 → Int32 → Option ρ) (σ : zH) (i0 : Nat) (x1 : Int32) (x2 : Int32) (xs0 : Int32) (y3 : zAV) (y4 : zAV) : gl_X8_wakeNextTo_41 f σ [vR 8 i0, vI x1, vI x2, y3, y4] [vI xs0] = f σ i0 x1 x2 xs0 := rfl
theorem glr_X8_wakeNextTo_74 {ρ : Type} (f : zH → Nat → Int32 → Int32 → Option ρ) (σ : zH) (i0 : Nat) (x1 : Int32) (x4 : Int32) (y2 : zAV) (y3 : zAV) : gl_X8_wakeNextTo_74 f σ [vR 8 i0, vI x1, y2, y3, vI x4] [] = f σ i0 x1 x4 := rfl
theorem t_X8_wakeNextTo_0 {G : Nat → zH → List zAV → List zAV → Option zH} (es : List zEnt) (σ : zH) (i0 : Nat) (x1 : Int32) (y2 : zAV) (y3 : zAV) (y4 : zAV) (w0 : Int32) : zev cc_X8_wakeNextTo G 9 krV (zEk 0 (.iconst 1) 1 w0 :: zE 1 (.istore_n 2) 1 :: es) σ [vR 8 i0, vI x1, y2, y3, y4] [] = zev cc_X8_wakeNextTo G 9 krV es σ [vR 8 i0, vI x1, vI w0, y3, y4] [] := rfl
theorem t_X8_wakeNextTo_2 {G : Nat → zH → List zAV → List zAV → Option zH} (es : List zEnt) (σ : zH) (i0 : Nat) (x1 : Int32) (x2 : Int32) (y3 : zAV) (y4 : zAV)  : zev cc_X8_wakeNextTo G 9 krV (zE 2 (.iload_n 2) 1 :: zE 3 (.aload_n 0) 1 :: zEf 4 (.getfield 12) 3 8 0 84 (1, 0, 1) :: zEf 7 (.getfield 74) 3 0 0 31 (0, 0, 0) :: es) σ [vR 8 i0, vI x1, vI x2, y3, y4] [] = zev cc_X8_wakeNextTo G 9 krV es σ [vR 8 i0, vI x1, vI x2, y3, y4] [vI (σ.1 0 (i0 + 1) 0), vI x2] := rfl
theorem t_X8_wakeNextTo_13 {G : Nat → zH → List zAV → List zAV → Option zH} (es : List zEnt) (σ : zH) (i0 : Nat) (x1 : Int32) (x2 : Int32) (y3 : zAV) (y4 : zAV)  : zev cc_X8_wakeNextTo G 9 krV (zE 13 (.iload_n 1) 1 :: zE 14 (.iload_n 2) 1 :: zE 15 .iadd 1 :: zE 16 (.istore_n 3) 1 :: zE 17 (.iload_n 3) 1 :: zE 18 (.aload_n 0) 1 :: zEf 19 (.getfield 12) 3 8 0 84 (1, 0, 1) :: zEf 22 (.getfield 74) 3 0 0 31 (0, 0, 0) :: es) σ [vR 8 i0, vI x1, vI x2, y3, y4] [] = zev cc_X8_wakeNextTo G 9 krV es σ [vR 8 i0, vI x1, vI x2, vI (x1 + x2), y4] [vI (σ.1 0 (i0 + 1) 0), vI (x1 + x2)] := rfl
theorem t_X8_wakeNextTo_28 {G : Nat → zH → List zAV → List zAV → Option zH} (es : List zEnt) (σ : zH) (i0 : Nat) (x1 : Int32) (x2 : Int32) (x3 : Int32) (y4 : zAV)  : zev cc_X8_wakeNextTo G 9 krV (zE 28 (.iload_n 3) 1 :: es) σ [vR 8 i0, vI x1, vI x2, vI x3, y4] [] = zev cc_X8_wakeNextTo G 9 krV es σ [vR 8 i0, vI x1, vI x2, vI x3, y4] [vI x3] := rfl
theorem t_X8_wakeNextTo_32 {G : Nat → zH → List zAV → List zAV → Option zH} (es : List zEnt) (σ : zH) (i0 : Nat) (x1 : Int32) (x2 : Int32) (x3 : Int32) (y4 : zAV)  : zev cc_X8_wakeNextTo G 9 krV (zE 32 (.iload_n 3) 1 :: zE 33 (.aload_n 0) 1 :: zEf 34 (.getfield 12) 3 8 0 84 (1, 0, 1) :: zEf 37 (.getfield 74) 3 0 0 31 (0, 0, 0) :: zE 40 .isub 1 :: es) σ [vR 8 i0, vI x1, vI x2, vI x3, y4] [] = zev cc_X8_wakeNextTo G 9 krV es σ [vR 8 i0, vI x1, vI x2, vI x3, y4] [vI (x3 - (σ.1 0 (i0 + 1) 0))] := rfl
theorem t_X8_wakeNextTo_41 {G : Nat → zH → List zAV → List zAV → Option zH} (es : List zEnt) (σ : zH) (i0 : Nat) (x1 : Int32) (x2 : Int32) (xs0 : Int32) (y3 : zAV) (y4 : zAV)  : zev cc_X8_wakeNextTo G 9 krV (zE 41 (.istore 4) 2 :: zE 43 (.aload_n 0) 1 :: zE 44 (.iload 4) 2 :: es) σ [vR 8 i0, vI x1, vI x2, y3, y4] [vI xs0] = zev cc_X8_wakeNextTo G 9 krV es σ [vR 8 i0, vI x1, vI x2, (zkp y3), vI xs0] [vI xs0, vR 8 i0] := rfl
theorem t_X8_wakeNextTo_52 {G : Nat → zH → List zAV → List zAV → Option zH} (es : List zEnt) (σ : zH) (i0 : Nat) (x1 : Int32) (x2 : Int32) (x4 : Int32) (y3 : zAV)  : zev cc_X8_wakeNextTo G 9 krV (zE 52 (.aload_n 0) 1 :: zEf 53 (.getfield 12) 3 8 0 84 (1, 0, 1) :: zEf 56 (.getfield 157) 3 0 2 44 (1, 13, 0) :: zE 59 (.iload 4) 2 :: es) σ [vR 8 i0, vI x1, vI x2, y3, vI x4] [] = zev cc_X8_wakeNextTo G 9 krV es σ [vR 8 i0, vI x1, vI x2, y3, vI x4] [vI x4, vR 13 ((i0 + 1) + 0)] := rfl
theorem t_X8_wakeNextTo_62 {G : Nat → zH → List zAV → List zAV → Option zH} (es : List zEnt) (σ : zH) (i0 : Nat) (x1 : Int32) (x2 : Int32) (x4 : Int32) (xs0 : Int32) (y3 : zAV)  : zev cc_X8_wakeNextTo G 9 krV (zE 62 (.aload_n 0) 1 :: zEf 63 (.getfield 12) 3 8 0 84 (1, 0, 1) :: zEf 66 (.getfield 157) 3 0 2 44 (1, 13, 0) :: zE 69 (.iload_n 1) 1 :: es) σ [vR 8 i0, vI x1, vI x2, y3, vI x4] [vI xs0] = zev cc_X8_wakeNextTo G 9 krV es σ [vR 8 i0, vI x1, vI x2, y3, vI x4] [vI x1, vR 13 ((i0 + 1) + 0), vI xs0] := rfl
theorem t_X8_wakeNextTo_74 {G : Nat → zH → List zAV → List zAV → Option zH} (es : List zEnt) (σ : zH) (i0 : Nat) (x1 : Int32) (x4 : Int32) (y2 : zAV) (y3 : zAV) (w77 : Int32) : zev cc_X8_wakeNextTo G 9 krV (zE 74 (.aload_n 0) 1 :: zE 75 (.iload 4) 2 :: zEk 77 (.bipush 7) 2 w77 :: zE 79 (.iload_n 1) 1 :: es) σ [vR 8 i0, vI x1, y2, y3, vI x4] [] = zev cc_X8_wakeNextTo G 9 krV es σ [vR 8 i0, vI x1, y2, y3, vI x4] [vI x1, vI w77, vI x4, vR 8 i0] := rfl
theorem t_X8_wakeNextTo_84 {G : Nat → zH → List zAV → List zAV → Option zH} (es : List zEnt) (σ : zH) (i0 : Nat) (x1 : Int32) (x2 : Int32) (y3 : zAV) (y4 : zAV) (w84 : Int32) : zev cc_X8_wakeNextTo G 9 krV (zEk 84 (.iinc 2 1) 3 w84 :: es) σ [vR 8 i0, vI x1, vI x2, y3, y4] [] = zev cc_X8_wakeNextTo G 9 krV es σ [vR 8 i0, vI x1, vI (x2 + w84), y3, y4] [] := rfl
noncomputable def j_X8_wakeNextTo_41 (c2 : zH → Nat → Int32 → Int32 → Option zH) (c74 : zH → Nat → Int32 → Int32 → Option zH) (σ : zH) (i0 : Nat) (x1 : Int32) (x2 : Int32) (xs0 : Int32) : Option zH :=
  (d_X8_isAsleep σ i0 xs0).bind fun p1 =>
  if p1.2 = 0 then
    c2 p1.1 i0 x1 (x2 + (1 : Int32))
  else
    ix xs0 12 fun j2 =>
    ix x1 12 fun j3 =>
    if (p1.1.1 13 ((i0 + 1) + 0) j2) = (p1.1.1 13 ((i0 + 1) + 0) j3) then
      c74 p1.1 i0 x1 xs0
    else
      c2 p1.1 i0 x1 (x2 + (1 : Int32))
theorem e_X8_wakeNextTo_41 (c2 : zH → Nat → Int32 → Int32 → Option zH) (c74 : zH → Nat → Int32 → Int32 → Option zH) (σ : zH) (i0 : Nat) (x1 : Int32) (x2 : Int32) (xs0 : Int32) (y3 : zAV) (y4 : zAV) : j_X8_wakeNextTo_41 c2 c74 σ i0 x1 x2 xs0 = zin cc_X8_wakeNextTo (fun t => if t = 2 then some (gl_X8_wakeNextTo_2 c2) else if t = 74 then some (gl_X8_wakeNextTo_74 c74) else none) 9 krV b_X8_wakeNextTo 41 σ [vR 8 i0, vI x1, vI x2, y3, y4] [vI xs0] := by
  unfold j_X8_wakeNextTo_41
  refine Eq.symm ((zin_b (es := q_X8_wakeNextTo_41) rfl).trans ?_)
  refine (t_X8_wakeNextTo_41 _ _ _ _ _ _ _ _).trans ?_
  refine (x_callV rfl rfl rfl rfl).trans ((cl_X8_wakeNextTo_X8_isAsleep _ _ _).trans ((gr_X8_isAsleep _ _ _ _).trans (pbd fun _ => ?_)))
  refine x_if.trans (pif_eq ?_ ?_)
  · refine (zrun_b (es := q_X8_wakeNextTo_84) rfl rfl).trans ?_
    refine (t_X8_wakeNextTo_84 _ _ _ _ _ _ _ _).trans ?_
    refine x_goto.trans ?_
    exact (zrun_c rfl).trans (glr_X8_wakeNextTo_2 _ _ _ _ _ _ _)
  · refine (t_X8_wakeNextTo_52 _ _ _ _ _ _ _).trans ?_
    refine (x_iald (N := 12) rfl rfl).trans (pix fun _ => ?_)
    refine (t_X8_wakeNextTo_62 _ _ _ _ _ _ _ _).trans ?_
    refine (x_iald (N := 12) rfl rfl).trans (pix fun _ => ?_)
    refine x_icmp.trans (pif_ne ?_ ?_)
    · refine (zrun_b (es := q_X8_wakeNextTo_84) rfl rfl).trans ?_
      refine (t_X8_wakeNextTo_84 _ _ _ _ _ _ _ _).trans ?_
      refine x_goto.trans ?_
      exact (zrun_c rfl).trans (glr_X8_wakeNextTo_2 _ _ _ _ _ _ _)
    · refine x_cut.trans ?_
      exact (zrun_c rfl).trans (glr_X8_wakeNextTo_74 _ _ _ _ _ _ _)
theorem s_X8_wakeNextTo_41 {X : zX} (hX : zHX X) {c2 : zH → Nat → Int32 → Int32 → Option zH} {c74 : zH → Nat → Int32 → Int32 → Option zH} (h2 : ∀ σ L st r, gl_X8_wakeNextTo_2 c2 σ L st = some r → zGW X 87 krV 2 σ L st r) (h74 : ∀ σ L st r, gl_X8_wakeNextTo_74 c74 σ L st = some r → zGW X 87 krV 74 σ L st r) : ∀ σ L st r, gl_X8_wakeNextTo_41 (j_X8_wakeNextTo_41 c2 c74) σ L st = some r → zGW X 87 krV 41 σ L st r := by
  intro σ L st r h
  unfold gl_X8_wakeNextTo_41 at h
  split at h
  · exact zin_ok (hy_X8_wakeNextTo hX) bk_X8_wakeNextTo (fun t f hf => by
    by_cases e2 : t = 2
    · rw [if_pos e2] at hf; subst e2; cases hf; exact h2
    rw [if_neg e2] at hf
    by_cases e74 : t = 74
    · rw [if_pos e74] at hf; subst e74; cases hf; exact h74
    rw [if_neg e74] at hf
    cases hf) ((e_X8_wakeNextTo_41 _ _ _ _ _ _ _ _ _).symm.trans h)
  · cases h
noncomputable def k_X8_wakeNextTo_2 (c74 : zH → Nat → Int32 → Int32 → Option zH) : Nat → zH → Nat → Int32 → Int32 → Option zH
  | 0, _, _, _, _ => none
  | n + 1, σ, i0, x1, x2 =>
    if x2 < (σ.1 0 (i0 + 1) 0) then
      if (x1 + x2) < (σ.1 0 (i0 + 1) 0) then
        (j_X8_wakeNextTo_41 (k_X8_wakeNextTo_2 c74 n) c74) σ i0 x1 x2 (x1 + x2)
      else
        (j_X8_wakeNextTo_41 (k_X8_wakeNextTo_2 c74 n) c74) σ i0 x1 x2 ((x1 + x2) - (σ.1 0 (i0 + 1) 0))
    else
      some σ
theorem e_X8_wakeNextTo_2 (c74 : zH → Nat → Int32 → Int32 → Option zH) (n : Nat) (σ : zH) (i0 : Nat) (x1 : Int32) (x2 : Int32) (y3 : zAV) (y4 : zAV) : k_X8_wakeNextTo_2 c74 (n + 1) σ i0 x1 x2 = zin cc_X8_wakeNextTo (fun t => if t = 41 then some (gl_X8_wakeNextTo_41 (j_X8_wakeNextTo_41 (k_X8_wakeNextTo_2 c74 n) c74)) else none) 9 krV b_X8_wakeNextTo 2 σ [vR 8 i0, vI x1, vI x2, y3, y4] [] := by
  rw [k_X8_wakeNextTo_2]
  refine Eq.symm ((zin_b (es := q_X8_wakeNextTo_2) rfl).trans ?_)
  refine (t_X8_wakeNextTo_2 _ _ _ _ _ _ _).trans ?_
  refine x_icmp.trans (pif_ge ?_ ?_)
  · refine (zrun_b (es := q_X8_wakeNextTo_90) rfl rfl).trans ?_
    exact x_vret
  · refine (t_X8_wakeNextTo_13 _ _ _ _ _ _ _).trans ?_
    refine x_icmp.trans (pif_ge ?_ ?_)
    · refine (zrun_b (es := q_X8_wakeNextTo_32) rfl rfl).trans ?_
      refine (t_X8_wakeNextTo_32 _ _ _ _ _ _ _).trans ?_
      refine x_cut.trans ?_
      exact (zrun_c rfl).trans (glr_X8_wakeNextTo_41 _ _ _ _ _ _ _ _)
    · refine (t_X8_wakeNextTo_28 _ _ _ _ _ _ _).trans ?_
      refine x_goto.trans ?_
      exact (zrun_c rfl).trans (glr_X8_wakeNextTo_41 _ _ _ _ _ _ _ _)
theorem s_X8_wakeNextTo_2 {X : zX} (hX : zHX X) {c74 : zH → Nat → Int32 → Int32 → Option zH} (h74 : ∀ σ L st r, gl_X8_wakeNextTo_74 c74 σ L st = some r → zGW X 87 krV 74 σ L st r) : ∀ n σ L st r, gl_X8_wakeNextTo_2 (k_X8_wakeNextTo_2 c74 n) σ L st = some r → zGW X 87 krV 2 σ L st r := by
  intro n
  induction n with
  | zero =>
    intro σ L st r h
    unfold gl_X8_wakeNextTo_2 at h
    split at h <;> cases h
  | succ n ih =>
    intro σ L st r h
    unfold gl_X8_wakeNextTo_2 at h
    split at h
    · exact zin_ok (hy_X8_wakeNextTo hX) bk_X8_wakeNextTo (fun t f hf => by
      by_cases e41 : t = 41
      · rw [if_pos e41] at hf; subst e41; cases hf; exact (s_X8_wakeNextTo_41 hX ih h74)
      rw [if_neg e41] at hf
      cases hf) ((e_X8_wakeNextTo_2 _ _ _ _ _ _ _ _).symm.trans h)
    · cases h
noncomputable def j_X8_wakeNextTo_74  (σ : zH) (i0 : Nat) (x1 : Int32) (x4 : Int32) : Option zH :=
  (d_X8_getUp σ i0 x4 (7 : Int32) x1).bind fun σ1 =>
  some σ1
theorem e_X8_wakeNextTo_74  (σ : zH) (i0 : Nat) (x1 : Int32) (x4 : Int32) (y2 : zAV) (y3 : zAV) : j_X8_wakeNextTo_74 σ i0 x1 x4 = zin cc_X8_wakeNextTo (fun t => none) 9 krV b_X8_wakeNextTo 74 σ [vR 8 i0, vI x1, y2, y3, vI x4] [] := by
  unfold j_X8_wakeNextTo_74
  refine Eq.symm ((zin_b (es := q_X8_wakeNextTo_74) rfl).trans ?_)
  refine (t_X8_wakeNextTo_74 _ _ _ _ _ _ _ _).trans ?_
  refine (x_callV rfl rfl rfl rfl).trans ((cl_X8_wakeNextTo_X8_getUp _ _ _).trans ((gr_X8_getUp _ _ _ _ _ _).trans (pbd fun _ => ?_)))
  exact x_vret
theorem s_X8_wakeNextTo_74 {X : zX} (hX : zHX X)   : ∀ σ L st r, gl_X8_wakeNextTo_74 j_X8_wakeNextTo_74 σ L st = some r → zGW X 87 krV 74 σ L st r := by
  intro σ L st r h
  unfold gl_X8_wakeNextTo_74 at h
  split at h
  · exact zin_ok (hy_X8_wakeNextTo hX) bk_X8_wakeNextTo (fun t f hf => by
    cases hf) ((e_X8_wakeNextTo_74 _ _ _ _ _ _).symm.trans h)
  · cases h
noncomputable def d_X8_wakeNextTo (σ : zH) (ia0 : Nat) (xa1 : Int32) : Option zH :=
  (k_X8_wakeNextTo_2 j_X8_wakeNextTo_74 zN) σ ia0 xa1 (1 : Int32)
theorem e_X8_wakeNextTo (σ : zH) (ia0 : Nat) (xa1 : Int32) : d_X8_wakeNextTo σ ia0 xa1 = zin cc_X8_wakeNextTo (fun t => if t = 2 then some (gl_X8_wakeNextTo_2 (k_X8_wakeNextTo_2 j_X8_wakeNextTo_74 zN)) else none) 9 krV b_X8_wakeNextTo 0 σ [vR 8 ia0, vI xa1, vU, vU, vU] [] := by
  unfold d_X8_wakeNextTo
  refine Eq.symm ((zin_b (es := q_X8_wakeNextTo_0) rfl).trans ?_)
  refine (t_X8_wakeNextTo_0 _ _ _ _ _ _ _ _).trans ?_
  refine x_cut.trans ?_
  exact (zrun_c rfl).trans (glr_X8_wakeNextTo_2 _ _ _ _ _ _ _)
noncomputable def g_X8_wakeNextTo {ρ : Type} (σ : zH) (av : List zAV) (q : zH → zAV → Option ρ) : Option ρ := match av with
  | [.inr (.inr (.inl (8, ia0))), .inl xa1] => (d_X8_wakeNextTo σ ia0 xa1).bind fun σ => q σ vU
  | _ => none
theorem gr_X8_wakeNextTo {ρ : Type} (σ : zH) (ia0 : Nat) (xa1 : Int32) (q : zH → zAV → Option ρ) : g_X8_wakeNextTo σ [vR 8 ia0, vI xa1] q = (d_X8_wakeNextTo σ ia0 xa1).bind fun σ => q σ vU := rfl
theorem c_X8_wakeNextTo {ρ : Type} {X : zX} (hX : zHX X) {σ : zH} {av : List zAV} {q : zH → zAV → Option ρ} {r : ρ} (h : g_X8_wakeNextTo σ av q = some r) (hv : ∀ a ∈ av, zval X a) : zcon X 87 σ av q r := by
  unfold g_X8_wakeNextTo at h
  split at h
  · exact zcon_V (n := 87) (ml := 5) (rc := 9) (st := 0) (kd := 8) (np := 1) (by decide +kernel) rfl ⟨_, _, rfl, rfl⟩ (Nat.le_of_ble_eq_true rfl) hv h (fun y h1 => (zin_ok (hy_X8_wakeNextTo hX) bk_X8_wakeNextTo (fun t f hf => by
      by_cases e2 : t = 2
      · rw [if_pos e2] at hf; subst e2; cases hf; exact ((fun σ L st r h => s_X8_wakeNextTo_2 hX (s_X8_wakeNextTo_74 hX) zN σ L st r h))
      rw [if_neg e2] at hf
      cases hf) ((e_X8_wakeNextTo _ _ _).symm.trans h1)))
  · cases h
/-! SleepWaves$State.snore()V -/
def q_X8_snore_0 : List zEnt := zEk 0 (.iconst 0) 1 0 :: zE 1 (.istore_n 1) 1 :: [zE 2 .nop 0]
def q_X8_snore_48 : List zEnt := zEa 48 (.goto (-46)) 3 2 :: []
def q_X8_snore_45 : List zEnt := zEk 45 (.iinc 1 1) 3 1 :: q_X8_snore_48
def q_X8_snore_42 : List zEnt := zEc 42 (.invokevirtual 150) 3 87 2 68 1 :: q_X8_snore_45
def q_X8_snore_40 : List zEnt := zE 40 (.aload_n 0) 1 :: zE 41 (.iload_n 1) 1 :: q_X8_snore_42
def q_X8_snore_37 : List zEnt := zEa 37 (.if_icmp .ge 8) 3 45 :: q_X8_snore_40
def q_X8_snore_36 : List zEnt := zE 36 .iaload 1 :: q_X8_snore_37
def q_X8_snore_28 : List zEnt := zE 28 (.aload_n 0) 1 :: zEf 29 (.getfield 12) 3 8 0 84 (1, 0, 1) :: zEf 32 (.getfield 148) 3 0 4 54 (1, 15, 0) :: zE 35 (.iload_n 1) 1 :: q_X8_snore_36
def q_X8_snore_27 : List zEnt := zE 27 .irem 1 :: q_X8_snore_28
def q_X8_snore_25 : List zEnt := zEk 25 (.bipush 100) 2 100 :: q_X8_snore_27
def q_X8_snore_22 : List zEnt := zEc 22 (.invokevirtual 145) 3 86 1 67 0 :: q_X8_snore_25
def q_X8_snore_21 : List zEnt := zE 21 (.aload_n 0) 1 :: q_X8_snore_22
def q_X8_snore_18 : List zEnt := zEa 18 (.ifCond .eq 27) 3 45 :: q_X8_snore_21
def q_X8_snore_15 : List zEnt := zEc 15 (.invokevirtual 92) 3 73 2 54 0 :: q_X8_snore_18
def q_X8_snore_13 : List zEnt := zE 13 (.aload_n 0) 1 :: zE 14 (.iload_n 1) 1 :: q_X8_snore_15
def q_X8_snore_10 : List zEnt := zEa 10 (.if_icmp .ge 41) 3 51 :: q_X8_snore_13
def q_X8_snore_2 : List zEnt := zE 2 (.iload_n 1) 1 :: zE 3 (.aload_n 0) 1 :: zEf 4 (.getfield 12) 3 8 0 84 (1, 0, 1) :: zEf 7 (.getfield 74) 3 0 0 31 (0, 0, 0) :: q_X8_snore_10
def q_X8_snore_51 : List zEnt := zE 51 .return_ 1 :: []
def b_X8_snore : List (Nat × List zEnt) := [(0, q_X8_snore_0), (2, q_X8_snore_2), (45, q_X8_snore_45), (51, q_X8_snore_51)]
theorem bk_X8_snore : zchB 85 b_X8_snore = true := by decide +kernel
noncomputable def cc_X8_snore {ρ : Type} : Nat → zH → List zAV → (zH → zAV → Option ρ) → Option ρ := fun n σ av q => if n = 73 then g_X8_isAsleep σ av q else if n = 86 then g_X8_draw σ av q else if n = 87 then g_X8_wakeNextTo σ av q else none
theorem cs_X8_snore {ρ : Type} {X : zX} (hX : zHX X) : zCS X (cc_X8_snore (ρ := ρ)) := by
  intro n σ av q r h hv
  unfold cc_X8_snore at h
  by_cases e_X8_isAsleep : n = 73
  · rw [if_pos e_X8_isAsleep] at h
    subst e_X8_isAsleep
    exact c_X8_isAsleep hX h hv
  rw [if_neg e_X8_isAsleep] at h
  by_cases e_X8_draw : n = 86
  · rw [if_pos e_X8_draw] at h
    subst e_X8_draw
    exact c_X8_draw hX h hv
  rw [if_neg e_X8_draw] at h
  by_cases e_X8_wakeNextTo : n = 87
  · rw [if_pos e_X8_wakeNextTo] at h
    subst e_X8_wakeNextTo
    exact c_X8_wakeNextTo hX h hv
  rw [if_neg e_X8_wakeNextTo] at h
  cases h
theorem cl_X8_snore_X8_isAsleep {ρ : Type} (σ : zH) (av : List zAV) (q : zH → zAV → Option ρ) : cc_X8_snore 73 σ av q = g_X8_isAsleep σ av q := rfl
theorem cl_X8_snore_X8_draw {ρ : Type} (σ : zH) (av : List zAV) (q : zH → zAV → Option ρ) : cc_X8_snore 86 σ av q = g_X8_draw σ av q := rfl
theorem cl_X8_snore_X8_wakeNextTo {ρ : Type} (σ : zH) (av : List zAV) (q : zH → zAV → Option ρ) : cc_X8_snore 87 σ av q = g_X8_wakeNextTo σ av q := rfl
theorem hy_X8_snore {ρ : Type} {X : zX} (hX : zHX X) : zHY X 85 (cc_X8_snore (ρ := ρ)) := zHX.hY hX (cs_X8_snore hX) (zmok_all 85 (by decide))
def gl_X8_snore_2 {ρ : Type} (f : zH → Nat → Int32 → Option ρ) (σ : zH) (L st : List zAV) : Option ρ := match L, st with
  | [.inr (.inr (.inl (8, i0))), .inl x1], [] => f σ i0 x1
  | _, _ => none
theorem glr_X8_snore_2 {ρ : Type} (f : zH → Nat → Int32 → Option ρ) (σ : zH) (i0 : Nat) (x1 : Int32)  : gl_X8_snore_2 f σ [vR 8 i0, vI x1] [] = f σ i0 x1 := rfl
theorem t_X8_snore_0 {G : Nat → zH → List zAV → List zAV → Option zH} (es : List zEnt) (σ : zH) (i0 : Nat) (y1 : zAV) (w0 : Int32) : zev cc_X8_snore G 9 krV (zEk 0 (.iconst 0) 1 w0 :: zE 1 (.istore_n 1) 1 :: es) σ [vR 8 i0, y1] [] = zev cc_X8_snore G 9 krV es σ [vR 8 i0, vI w0] [] := rfl
theorem t_X8_snore_2 {G : Nat → zH → List zAV → List zAV → Option zH} (es : List zEnt) (σ : zH) (i0 : Nat) (x1 : Int32)   : zev cc_X8_snore G 9 krV (zE 2 (.iload_n 1) 1 :: zE 3 (.aload_n 0) 1 :: zEf 4 (.getfield 12) 3 8 0 84 (1, 0, 1) :: zEf 7 (.getfield 74) 3 0 0 31 (0, 0, 0) :: es) σ [vR 8 i0, vI x1] [] = zev cc_X8_snore G 9 krV es σ [vR 8 i0, vI x1] [vI (σ.1 0 (i0 + 1) 0), vI x1] := rfl
theorem t_X8_snore_13 {G : Nat → zH → List zAV → List zAV → Option zH} (es : List zEnt) (σ : zH) (i0 : Nat) (x1 : Int32)   : zev cc_X8_snore G 9 krV (zE 13 (.aload_n 0) 1 :: zE 14 (.iload_n 1) 1 :: es) σ [vR 8 i0, vI x1] [] = zev cc_X8_snore G 9 krV es σ [vR 8 i0, vI x1] [vI x1, vR 8 i0] := rfl
theorem t_X8_snore_21 {G : Nat → zH → List zAV → List zAV → Option zH} (es : List zEnt) (σ : zH) (i0 : Nat) (x1 : Int32)   : zev cc_X8_snore G 9 krV (zE 21 (.aload_n 0) 1 :: es) σ [vR 8 i0, vI x1] [] = zev cc_X8_snore G 9 krV es σ [vR 8 i0, vI x1] [vR 8 i0] := rfl
theorem t_X8_snore_25 {G : Nat → zH → List zAV → List zAV → Option zH} (es : List zEnt) (σ : zH) (i0 : Nat) (x1 : Int32) (xs0 : Int32)  (w25 : Int32) : zev cc_X8_snore G 9 krV (zEk 25 (.bipush 100) 2 w25 :: es) σ [vR 8 i0, vI x1] [vI xs0] = zev cc_X8_snore G 9 krV es σ [vR 8 i0, vI x1] [vI w25, vI xs0] := rfl
theorem t_X8_snore_28 {G : Nat → zH → List zAV → List zAV → Option zH} (es : List zEnt) (σ : zH) (i0 : Nat) (x1 : Int32) (xs0 : Int32)   : zev cc_X8_snore G 9 krV (zE 28 (.aload_n 0) 1 :: zEf 29 (.getfield 12) 3 8 0 84 (1, 0, 1) :: zEf 32 (.getfield 148) 3 0 4 54 (1, 15, 0) :: zE 35 (.iload_n 1) 1 :: es) σ [vR 8 i0, vI x1] [vI xs0] = zev cc_X8_snore G 9 krV es σ [vR 8 i0, vI x1] [vI x1, vR 15 ((i0 + 1) + 0), vI xs0] := rfl
theorem t_X8_snore_40 {G : Nat → zH → List zAV → List zAV → Option zH} (es : List zEnt) (σ : zH) (i0 : Nat) (x1 : Int32)   : zev cc_X8_snore G 9 krV (zE 40 (.aload_n 0) 1 :: zE 41 (.iload_n 1) 1 :: es) σ [vR 8 i0, vI x1] [] = zev cc_X8_snore G 9 krV es σ [vR 8 i0, vI x1] [vI x1, vR 8 i0] := rfl
theorem t_X8_snore_45 {G : Nat → zH → List zAV → List zAV → Option zH} (es : List zEnt) (σ : zH) (i0 : Nat) (x1 : Int32)  (w45 : Int32) : zev cc_X8_snore G 9 krV (zEk 45 (.iinc 1 1) 3 w45 :: es) σ [vR 8 i0, vI x1] [] = zev cc_X8_snore G 9 krV es σ [vR 8 i0, vI (x1 + w45)] [] := rfl
noncomputable def k_X8_snore_2  : Nat → zH → Nat → Int32 → Option zH
  | 0, _, _, _ => none
  | n + 1, σ, i0, x1 =>
    if x1 < (σ.1 0 (i0 + 1) 0) then
      (d_X8_isAsleep σ i0 x1).bind fun p1 =>
      if p1.2 = 0 then
        (k_X8_snore_2 n) p1.1 i0 (x1 + (1 : Int32))
      else
        (d_X8_draw p1.1 i0).bind fun p2 =>
        ix x1 12 fun j3 =>
        if (p2.2 - p2.2 / (100 : Int32) * (100 : Int32)) < (p2.1.1 15 ((i0 + 1) + 0) j3) then
          (d_X8_wakeNextTo p2.1 i0 x1).bind fun σ4 =>
          (k_X8_snore_2 n) σ4 i0 (x1 + (1 : Int32))
        else
          (k_X8_snore_2 n) p2.1 i0 (x1 + (1 : Int32))
    else
      some σ
theorem e_X8_snore_2  (n : Nat) (σ : zH) (i0 : Nat) (x1 : Int32)  : k_X8_snore_2 (n + 1) σ i0 x1 = zin cc_X8_snore (fun t => if t = 2 then some (gl_X8_snore_2 (k_X8_snore_2 n)) else none) 9 krV b_X8_snore 2 σ [vR 8 i0, vI x1] [] := by
  rw [k_X8_snore_2]
  refine Eq.symm ((zin_b (es := q_X8_snore_2) rfl).trans ?_)
  refine (t_X8_snore_2 _ _ _ _).trans ?_
  refine x_icmp.trans (pif_ge ?_ ?_)
  · refine (zrun_b (es := q_X8_snore_51) rfl rfl).trans ?_
    exact x_vret
  · refine (t_X8_snore_13 _ _ _ _).trans ?_
    refine (x_callV rfl rfl rfl rfl).trans ((cl_X8_snore_X8_isAsleep _ _ _).trans ((gr_X8_isAsleep _ _ _ _).trans (pbd fun _ => ?_)))
    refine x_if.trans (pif_eq ?_ ?_)
    · refine (zrun_b (es := q_X8_snore_45) rfl rfl).trans ?_
      refine (t_X8_snore_45 _ _ _ _ _).trans ?_
      refine x_goto.trans ?_
      exact (zrun_c rfl).trans (glr_X8_snore_2 _ _ _ _)
    · refine (t_X8_snore_21 _ _ _ _).trans ?_
      refine (x_callV rfl rfl rfl rfl).trans ((cl_X8_snore_X8_draw _ _ _).trans ((gr_X8_draw _ _ _).trans (pbd fun _ => ?_)))
      refine (t_X8_snore_25 _ _ _ _ _ _).trans ?_
      refine (x_irem.trans (nz_l (by decide +kernel))).trans ?_
      refine (t_X8_snore_28 _ _ _ _ _).trans ?_
      refine (x_iald (N := 12) rfl rfl).trans (pix fun _ => ?_)
      refine x_icmp.trans (pif_ge ?_ ?_)
      · refine (zrun_b (es := q_X8_snore_45) rfl rfl).trans ?_
        refine (t_X8_snore_45 _ _ _ _ _).trans ?_
        refine x_goto.trans ?_
        exact (zrun_c rfl).trans (glr_X8_snore_2 _ _ _ _)
      · refine (t_X8_snore_40 _ _ _ _).trans ?_
        refine (x_callV rfl rfl rfl rfl).trans ((cl_X8_snore_X8_wakeNextTo _ _ _).trans ((gr_X8_wakeNextTo _ _ _ _).trans (pbd fun _ => ?_)))
        refine (t_X8_snore_45 _ _ _ _ _).trans ?_
        refine x_goto.trans ?_
        exact (zrun_c rfl).trans (glr_X8_snore_2 _ _ _ _)
theorem s_X8_snore_2 {X : zX} (hX : zHX X)   : ∀ n σ L st r, gl_X8_snore_2 (k_X8_snore_2 n) σ L st = some r → zGW X 85 krV 2 σ L st r := by
  intro n
  induction n with
  | zero =>
    intro σ L st r h
    unfold gl_X8_snore_2 at h
    split at h <;> cases h
  | succ n ih =>
    intro σ L st r h
    unfold gl_X8_snore_2 at h
    split at h
    · exact zin_ok (hy_X8_snore hX) bk_X8_snore (fun t f hf => by
      by_cases e2 : t = 2
      · rw [if_pos e2] at hf; subst e2; cases hf; exact ih
      rw [if_neg e2] at hf
      cases hf) ((e_X8_snore_2 _ _ _ _).symm.trans h)
    · cases h
noncomputable def d_X8_snore (σ : zH) (ia0 : Nat) : Option zH :=
  (k_X8_snore_2 zN) σ ia0 (0 : Int32)
theorem e_X8_snore (σ : zH) (ia0 : Nat) : d_X8_snore σ ia0 = zin cc_X8_snore (fun t => if t = 2 then some (gl_X8_snore_2 (k_X8_snore_2 zN)) else none) 9 krV b_X8_snore 0 σ [vR 8 ia0, vU] [] := by
  unfold d_X8_snore
  refine Eq.symm ((zin_b (es := q_X8_snore_0) rfl).trans ?_)
  refine (t_X8_snore_0 _ _ _ _ _).trans ?_
  refine x_cut.trans ?_
  exact (zrun_c rfl).trans (glr_X8_snore_2 _ _ _ _)
noncomputable def g_X8_snore {ρ : Type} (σ : zH) (av : List zAV) (q : zH → zAV → Option ρ) : Option ρ := match av with
  | [.inr (.inr (.inl (8, ia0)))] => (d_X8_snore σ ia0).bind fun σ => q σ vU
  | _ => none
theorem gr_X8_snore {ρ : Type} (σ : zH) (ia0 : Nat) (q : zH → zAV → Option ρ) : g_X8_snore σ [vR 8 ia0] q = (d_X8_snore σ ia0).bind fun σ => q σ vU := rfl
theorem c_X8_snore {ρ : Type} {X : zX} (hX : zHX X) {σ : zH} {av : List zAV} {q : zH → zAV → Option ρ} {r : ρ} (h : g_X8_snore σ av q = some r) (hv : ∀ a ∈ av, zval X a) : zcon X 85 σ av q r := by
  unfold g_X8_snore at h
  split at h
  · exact zcon_V (n := 85) (ml := 2) (rc := 9) (st := 0) (kd := 8) (np := 0) (by decide +kernel) rfl ⟨_, _, rfl, rfl⟩ (Nat.le_of_ble_eq_true rfl) hv h (fun y h1 => (zin_ok (hy_X8_snore hX) bk_X8_snore (fun t f hf => by
      by_cases e2 : t = 2
      · rw [if_pos e2] at hf; subst e2; cases hf; exact ((fun σ L st r h => s_X8_snore_2 hX  zN σ L st r h))
      rw [if_neg e2] at hf
      cases hf) ((e_X8_snore _ _).symm.trans h1)))
  · cases h
/-! SleepWaves$State.tire()V -/
def q_X8_tire_0 : List zEnt := zEk 0 (.iconst 0) 1 0 :: zE 1 (.istore_n 1) 1 :: [zE 2 .nop 0]
def q_X8_tire_38 : List zEnt := zEa 38 (.goto 17) 3 55 :: []
def q_X8_tire_33 : List zEnt := zEk 33 (.iconst 2) 1 2 :: zE 34 .isub 1 :: zEc 35 (.invokestatic 160) 3 9002 0 875 0 :: q_X8_tire_38
def q_X8_tire_32 : List zEnt := zE 32 .iaload 1 :: q_X8_tire_33
def q_X8_tire_26 : List zEnt := zEk 26 (.iconst 0) 1 0 :: zE 27 (.aload_n 0) 1 :: zEf 28 (.getfield 18) 3 8 6 100 (1, 31, 0) :: zE 31 (.iload_n 1) 1 :: q_X8_tire_32
def q_X8_tire_23 : List zEnt := zEa 23 (.ifCond .eq 18) 3 41 :: q_X8_tire_26
def q_X8_tire_20 : List zEnt := zEc 20 (.invokevirtual 92) 3 73 2 54 0 :: q_X8_tire_23
def q_X8_tire_13 : List zEnt := zE 13 (.aload_n 0) 1 :: zEf 14 (.getfield 18) 3 8 6 100 (1, 31, 0) :: zE 17 (.iload_n 1) 1 :: zE 18 (.aload_n 0) 1 :: zE 19 (.iload_n 1) 1 :: q_X8_tire_20
def q_X8_tire_10 : List zEnt := zEa 10 (.if_icmp .ge 72) 3 82 :: q_X8_tire_13
def q_X8_tire_2 : List zEnt := zE 2 (.iload_n 1) 1 :: zE 3 (.aload_n 0) 1 :: zEf 4 (.getfield 12) 3 8 0 84 (1, 0, 1) :: zEf 7 (.getfield 74) 3 0 0 31 (0, 0, 0) :: q_X8_tire_10
def q_X8_tire_50 : List zEnt := zEk 50 (.iconst 1) 1 1 :: zE 51 .iadd 1 :: zEc 52 (.invokestatic 165) 3 9003 0 876 0 :: [zE 55 .nop 0]
def q_X8_tire_49 : List zEnt := zE 49 .iaload 1 :: q_X8_tire_50
def q_X8_tire_41 : List zEnt := zEk 41 (.sipush 999) 3 999 :: zE 44 (.aload_n 0) 1 :: zEf 45 (.getfield 18) 3 8 6 100 (1, 31, 0) :: zE 48 (.iload_n 1) 1 :: q_X8_tire_49
def q_X8_tire_79 : List zEnt := zEa 79 (.goto (-77)) 3 2 :: []
def q_X8_tire_76 : List zEnt := zEk 76 (.iinc 1 1) 3 1 :: q_X8_tire_79
def q_X8_tire_75 : List zEnt := zE 75 .iastore 1 :: q_X8_tire_76
def q_X8_tire_70 : List zEnt := zEk 70 (.iconst 1) 1 1 :: zE 71 .iadd 1 :: zEc 72 (.invokestatic 165) 3 9003 0 876 0 :: q_X8_tire_75
def q_X8_tire_69 : List zEnt := zE 69 .iaload 1 :: q_X8_tire_70
def q_X8_tire_56 : List zEnt := zE 56 (.aload_n 0) 1 :: zEf 57 (.getfield 22) 3 8 7 102 (1, 32, 0) :: zE 60 (.iload_n 1) 1 :: zEk 61 (.sipush 999) 3 999 :: zE 64 (.aload_n 0) 1 :: zEf 65 (.getfield 22) 3 8 7 102 (1, 32, 0) :: zE 68 (.iload_n 1) 1 :: q_X8_tire_69
def q_X8_tire_55 : List zEnt := zE 55 .iastore 1 :: q_X8_tire_56
def q_X8_tire_138 : List zEnt := zE 138 .return_ 1 :: []
def q_X8_tire_135 : List zEnt := zEf 135 (.putfield 37) 3 8 13 114 (0, 0, 0) :: q_X8_tire_138
def q_X8_tire_130 : List zEnt := zE 130 (.aload_n 0) 1 :: zE 131 (.aload_n 0) 1 :: zEf 132 (.getfield 48) 3 8 1 88 (0, 0, 0) :: q_X8_tire_135
def q_X8_tire_127 : List zEnt := zEa 127 (.if_icmp .ne 11) 3 138 :: q_X8_tire_130
def q_X8_tire_121 : List zEnt := zE 121 (.aload_n 0) 1 :: zEf 122 (.getfield 37) 3 8 13 114 (0, 0, 0) :: zEk 125 (.bipush (-2)) 2 (-2) :: q_X8_tire_127
def q_X8_tire_118 : List zEnt := zEf 118 (.putfield 71) 3 8 12 111 (0, 0, 0) :: q_X8_tire_121
def q_X8_tire_111 : List zEnt := zE 111 (.aload_n 0) 1 :: zE 112 .dup 1 :: zEf 113 (.getfield 71) 3 8 12 111 (0, 0, 0) :: zEk 116 (.iconst 1) 1 1 :: zE 117 .iadd 1 :: q_X8_tire_118
def q_X8_tire_108 : List zEnt := zEa 108 (.if_icmp .ge 30) 3 138 :: q_X8_tire_111
def q_X8_tire_97 : List zEnt := zE 97 (.aload_n 0) 1 :: zEf 98 (.getfield 65) 3 8 5 98 (0, 0, 0) :: zE 101 (.aload_n 0) 1 :: zEf 102 (.getfield 12) 3 8 0 84 (1, 0, 1) :: zEf 105 (.getfield 168) 3 0 12 76 (0, 0, 0) :: q_X8_tire_108
def q_X8_tire_94 : List zEnt := zEf 94 (.putfield 77) 3 8 14 117 (0, 0, 0) :: q_X8_tire_97
def q_X8_tire_82 : List zEnt := zE 82 (.aload_n 0) 1 :: zE 83 (.aload_n 0) 1 :: zEf 84 (.getfield 77) 3 8 14 117 (0, 0, 0) :: zE 87 (.aload_n 0) 1 :: zEf 88 (.getfield 65) 3 8 5 98 (0, 0, 0) :: zEc 91 (.invokestatic 165) 3 9003 0 876 0 :: q_X8_tire_94
def b_X8_tire : List (Nat × List zEnt) := [(0, q_X8_tire_0), (2, q_X8_tire_2), (41, q_X8_tire_41), (55, q_X8_tire_55), (82, q_X8_tire_82), (138, q_X8_tire_138)]
theorem bk_X8_tire : zchB 88 b_X8_tire = true := by decide +kernel
noncomputable def cc_X8_tire {ρ : Type} : Nat → zH → List zAV → (zH → zAV → Option ρ) → Option ρ := fun n σ av q => if n = 73 then g_X8_isAsleep σ av q else none
theorem cs_X8_tire {ρ : Type} {X : zX} (hX : zHX X) : zCS X (cc_X8_tire (ρ := ρ)) := by
  intro n σ av q r h hv
  unfold cc_X8_tire at h
  by_cases e_X8_isAsleep : n = 73
  · rw [if_pos e_X8_isAsleep] at h
    subst e_X8_isAsleep
    exact c_X8_isAsleep hX h hv
  rw [if_neg e_X8_isAsleep] at h
  cases h
theorem cl_X8_tire_X8_isAsleep {ρ : Type} (σ : zH) (av : List zAV) (q : zH → zAV → Option ρ) : cc_X8_tire 73 σ av q = g_X8_isAsleep σ av q := rfl
theorem hy_X8_tire {ρ : Type} {X : zX} (hX : zHX X) : zHY X 88 (cc_X8_tire (ρ := ρ)) := zHX.hY hX (cs_X8_tire hX) (zmok_all 88 (by decide))
def gl_X8_tire_2 {ρ : Type} (f : zH → Nat → Int32 → Option ρ) (σ : zH) (L st : List zAV) : Option ρ := match L, st with
  | [.inr (.inr (.inl (8, i0))), .inl x1], [] => f σ i0 x1
  | _, _ => none
def gl_X8_tire_55 {ρ : Type} (f : zH → Nat → Int32 → Nat → Int32 → Int32 → Option ρ) (σ : zH) (L st : List zAV) : Option ρ := match L, st with
  | [.inr (.inr (.inl (8, i0))), .inl x1], [.inl xs2, .inl xs1, .inr (.inr (.inl (31, is0)))] => f σ i0 x1 is0 xs1 xs2
  | _, _ => none
def gl_X8_tire_82 {ρ : Type} (f : zH → Nat → Option ρ) (σ : zH) (L st : List zAV) : Option ρ := match L, st with
  | [.inr (.inr (.inl (8, i0))), _], [] => f σ i0
  | _, _ => none
theorem glr_X8_tire_2 {ρ : Type} (f : zH → Nat → Int32 → Option ρ) (σ : zH) (i0 : Nat) (x1 : Int32)  : gl_X8_tire_2 f σ [vR 8 i0, vI x1] [] = f σ i0 x1 := rfl
theorem glr_X8_tire_55 {ρ : Type} (f : zH → Nat → Int32 → Nat → Int32 → Int32 → Option ρ) (σ : zH) (i0 : Nat) (x1 : Int32) (is0 : Nat) (xs1 : Int32) (xs2 : Int32)  : gl_X8_tire_55 f σ [vR 8 i0, vI x1] [vI xs2, vI xs1, vR 31 is0] = f σ i0 x1 is0 xs1 xs2 := rfl
theorem glr_X8_tire_82 {ρ : Type} (f : zH → Nat → Option ρ) (σ : zH) (i0 : Nat) (y1 : zAV) : gl_X8_tire_82 f σ [vR 8 i0, y1] [] = f σ i0 := rfl
theorem t_X8_tire_0 {G : Nat → zH → List zAV → List zAV → Option zH} (es : List zEnt) (σ : zH) (i0 : Nat) (y1 : zAV) (w0 : Int32) : zev cc_X8_tire G 9 krV (zEk 0 (.iconst 0) 1 w0 :: zE 1 (.istore_n 1) 1 :: es) σ [vR 8 i0, y1] [] = zev cc_X8_tire G 9 krV es σ [vR 8 i0, vI w0] [] := rfl
theorem t_X8_tire_2 {G : Nat → zH → List zAV → List zAV → Option zH} (es : List zEnt) (σ : zH) (i0 : Nat) (x1 : Int32)   : zev cc_X8_tire G 9 krV (zE 2 (.iload_n 1) 1 :: zE 3 (.aload_n 0) 1 :: zEf 4 (.getfield 12) 3 8 0 84 (1, 0, 1) :: zEf 7 (.getfield 74) 3 0 0 31 (0, 0, 0) :: es) σ [vR 8 i0, vI x1] [] = zev cc_X8_tire G 9 krV es σ [vR 8 i0, vI x1] [vI (σ.1 0 (i0 + 1) 0), vI x1] := rfl
theorem t_X8_tire_13 {G : Nat → zH → List zAV → List zAV → Option zH} (es : List zEnt) (σ : zH) (i0 : Nat) (x1 : Int32)   : zev cc_X8_tire G 9 krV (zE 13 (.aload_n 0) 1 :: zEf 14 (.getfield 18) 3 8 6 100 (1, 31, 0) :: zE 17 (.iload_n 1) 1 :: zE 18 (.aload_n 0) 1 :: zE 19 (.iload_n 1) 1 :: es) σ [vR 8 i0, vI x1] [] = zev cc_X8_tire G 9 krV es σ [vR 8 i0, vI x1] [vI x1, vR 8 i0, vI x1, vR 31 (i0 + 0)] := rfl
theorem t_X8_tire_26 {G : Nat → zH → List zAV → List zAV → Option zH} (es : List zEnt) (σ : zH) (i0 : Nat) (x1 : Int32) (is0 : Nat) (xs1 : Int32)  (w26 : Int32) : zev cc_X8_tire G 9 krV (zEk 26 (.iconst 0) 1 w26 :: zE 27 (.aload_n 0) 1 :: zEf 28 (.getfield 18) 3 8 6 100 (1, 31, 0) :: zE 31 (.iload_n 1) 1 :: es) σ [vR 8 i0, vI x1] [vI xs1, vR 31 is0] = zev cc_X8_tire G 9 krV es σ [vR 8 i0, vI x1] [vI x1, vR 31 (i0 + 0), vI w26, vI xs1, vR 31 is0] := rfl
theorem t_X8_tire_33 {G : Nat → zH → List zAV → List zAV → Option zH} (es : List zEnt) (σ : zH) (i0 : Nat) (x1 : Int32) (is0 : Nat) (xs1 : Int32) (xs2 : Int32) (xs3 : Int32)  (w33 : Int32) : zev cc_X8_tire G 9 krV (zEk 33 (.iconst 2) 1 w33 :: zE 34 .isub 1 :: zEc 35 (.invokestatic 160) 3 9002 0 875 0 :: es) σ [vR 8 i0, vI x1] [vI xs3, vI xs2, vI xs1, vR 31 is0] = zev cc_X8_tire G 9 krV es σ [vR 8 i0, vI x1] [vI (zmx xs2 (xs3 - w33)), vI xs1, vR 31 is0] := rfl
theorem t_X8_tire_41 {G : Nat → zH → List zAV → List zAV → Option zH} (es : List zEnt) (σ : zH) (i0 : Nat) (x1 : Int32) (is0 : Nat) (xs1 : Int32)  (w41 : Int32) : zev cc_X8_tire G 9 krV (zEk 41 (.sipush 999) 3 w41 :: zE 44 (.aload_n 0) 1 :: zEf 45 (.getfield 18) 3 8 6 100 (1, 31, 0) :: zE 48 (.iload_n 1) 1 :: es) σ [vR 8 i0, vI x1] [vI xs1, vR 31 is0] = zev cc_X8_tire G 9 krV es σ [vR 8 i0, vI x1] [vI x1, vR 31 (i0 + 0), vI w41, vI xs1, vR 31 is0] := rfl
theorem t_X8_tire_50 {G : Nat → zH → List zAV → List zAV → Option zH} (es : List zEnt) (σ : zH) (i0 : Nat) (x1 : Int32) (is0 : Nat) (xs1 : Int32) (xs2 : Int32) (xs3 : Int32)  (w50 : Int32) : zev cc_X8_tire G 9 krV (zEk 50 (.iconst 1) 1 w50 :: zE 51 .iadd 1 :: zEc 52 (.invokestatic 165) 3 9003 0 876 0 :: es) σ [vR 8 i0, vI x1] [vI xs3, vI xs2, vI xs1, vR 31 is0] = zev cc_X8_tire G 9 krV es σ [vR 8 i0, vI x1] [vI (zmn xs2 (xs3 + w50)), vI xs1, vR 31 is0] := rfl
theorem t_X8_tire_56 {G : Nat → zH → List zAV → List zAV → Option zH} (es : List zEnt) (σ : zH) (i0 : Nat) (x1 : Int32)  (w61 : Int32) : zev cc_X8_tire G 9 krV (zE 56 (.aload_n 0) 1 :: zEf 57 (.getfield 22) 3 8 7 102 (1, 32, 0) :: zE 60 (.iload_n 1) 1 :: zEk 61 (.sipush 999) 3 w61 :: zE 64 (.aload_n 0) 1 :: zEf 65 (.getfield 22) 3 8 7 102 (1, 32, 0) :: zE 68 (.iload_n 1) 1 :: es) σ [vR 8 i0, vI x1] [] = zev cc_X8_tire G 9 krV es σ [vR 8 i0, vI x1] [vI x1, vR 32 (i0 + 0), vI w61, vI x1, vR 32 (i0 + 0)] := rfl
theorem t_X8_tire_70 {G : Nat → zH → List zAV → List zAV → Option zH} (es : List zEnt) (σ : zH) (i0 : Nat) (x1 : Int32) (is0 : Nat) (xs1 : Int32) (xs2 : Int32) (xs3 : Int32)  (w70 : Int32) : zev cc_X8_tire G 9 krV (zEk 70 (.iconst 1) 1 w70 :: zE 71 .iadd 1 :: zEc 72 (.invokestatic 165) 3 9003 0 876 0 :: es) σ [vR 8 i0, vI x1] [vI xs3, vI xs2, vI xs1, vR 32 is0] = zev cc_X8_tire G 9 krV es σ [vR 8 i0, vI x1] [vI (zmn xs2 (xs3 + w70)), vI xs1, vR 32 is0] := rfl
theorem t_X8_tire_76 {G : Nat → zH → List zAV → List zAV → Option zH} (es : List zEnt) (σ : zH) (i0 : Nat) (x1 : Int32)  (w76 : Int32) : zev cc_X8_tire G 9 krV (zEk 76 (.iinc 1 1) 3 w76 :: es) σ [vR 8 i0, vI x1] [] = zev cc_X8_tire G 9 krV es σ [vR 8 i0, vI (x1 + w76)] [] := rfl
theorem t_X8_tire_82 {G : Nat → zH → List zAV → List zAV → Option zH} (es : List zEnt) (σ : zH) (i0 : Nat) (y1 : zAV)  : zev cc_X8_tire G 9 krV (zE 82 (.aload_n 0) 1 :: zE 83 (.aload_n 0) 1 :: zEf 84 (.getfield 77) 3 8 14 117 (0, 0, 0) :: zE 87 (.aload_n 0) 1 :: zEf 88 (.getfield 65) 3 8 5 98 (0, 0, 0) :: zEc 91 (.invokestatic 165) 3 9003 0 876 0 :: es) σ [vR 8 i0, y1] [] = zev cc_X8_tire G 9 krV es σ [vR 8 i0, y1] [vI (zmn (σ.1 8 i0 14) (σ.1 8 i0 5)), vR 8 i0] := rfl
theorem t_X8_tire_97 {G : Nat → zH → List zAV → List zAV → Option zH} (es : List zEnt) (σ : zH) (i0 : Nat) (y1 : zAV)  : zev cc_X8_tire G 9 krV (zE 97 (.aload_n 0) 1 :: zEf 98 (.getfield 65) 3 8 5 98 (0, 0, 0) :: zE 101 (.aload_n 0) 1 :: zEf 102 (.getfield 12) 3 8 0 84 (1, 0, 1) :: zEf 105 (.getfield 168) 3 0 12 76 (0, 0, 0) :: es) σ [vR 8 i0, y1] [] = zev cc_X8_tire G 9 krV es σ [vR 8 i0, y1] [vI (σ.1 0 (i0 + 1) 12), vI (σ.1 8 i0 5)] := rfl
theorem t_X8_tire_111 {G : Nat → zH → List zAV → List zAV → Option zH} (es : List zEnt) (σ : zH) (i0 : Nat) (y1 : zAV) (w116 : Int32) : zev cc_X8_tire G 9 krV (zE 111 (.aload_n 0) 1 :: zE 112 .dup 1 :: zEf 113 (.getfield 71) 3 8 12 111 (0, 0, 0) :: zEk 116 (.iconst 1) 1 w116 :: zE 117 .iadd 1 :: es) σ [vR 8 i0, y1] [] = zev cc_X8_tire G 9 krV es σ [vR 8 i0, y1] [vI ((σ.1 8 i0 12) + w116), vR 8 i0] := rfl
theorem t_X8_tire_121 {G : Nat → zH → List zAV → List zAV → Option zH} (es : List zEnt) (σ : zH) (i0 : Nat) (y1 : zAV) (w125 : Int32) : zev cc_X8_tire G 9 krV (zE 121 (.aload_n 0) 1 :: zEf 122 (.getfield 37) 3 8 13 114 (0, 0, 0) :: zEk 125 (.bipush (-2)) 2 w125 :: es) σ [vR 8 i0, y1] [] = zev cc_X8_tire G 9 krV es σ [vR 8 i0, y1] [vI w125, vI (σ.1 8 i0 13)] := rfl
theorem t_X8_tire_130 {G : Nat → zH → List zAV → List zAV → Option zH} (es : List zEnt) (σ : zH) (i0 : Nat) (y1 : zAV)  : zev cc_X8_tire G 9 krV (zE 130 (.aload_n 0) 1 :: zE 131 (.aload_n 0) 1 :: zEf 132 (.getfield 48) 3 8 1 88 (0, 0, 0) :: es) σ [vR 8 i0, y1] [] = zev cc_X8_tire G 9 krV es σ [vR 8 i0, y1] [vI (σ.1 8 i0 1), vR 8 i0] := rfl
noncomputable def j_X8_tire_55 (c2 : zH → Nat → Int32 → Option zH) (σ : zH) (i0 : Nat) (x1 : Int32) (is0 : Nat) (xs1 : Int32) (xs2 : Int32) : Option zH :=
  ix xs1 12 fun j5 =>
  zlet (uI σ 31 is0 j5 xs2) fun σ1 =>
  ix x1 12 fun j2 =>
  ix x1 12 fun j4 =>
  zlet (uI σ1 32 (i0 + 0) j4 (zmn (999 : Int32) ((σ1.1 32 (i0 + 0) j2) + (1 : Int32)))) fun σ3 =>
  c2 σ3 i0 (x1 + (1 : Int32))
theorem e_X8_tire_55 (c2 : zH → Nat → Int32 → Option zH) (σ : zH) (i0 : Nat) (x1 : Int32) (is0 : Nat) (xs1 : Int32) (xs2 : Int32)  : j_X8_tire_55 c2 σ i0 x1 is0 xs1 xs2 = zin cc_X8_tire (fun t => if t = 2 then some (gl_X8_tire_2 c2) else none) 9 krV b_X8_tire 55 σ [vR 8 i0, vI x1] [vI xs2, vI xs1, vR 31 is0] := by
  unfold j_X8_tire_55
  refine Eq.symm ((zin_b (es := q_X8_tire_55) rfl).trans ?_)
  refine (x_iast (N := 12) rfl rfl).trans (pix fun _ => plt fun _ => ?_)
  refine (t_X8_tire_56 _ _ _ _ _).trans ?_
  refine (x_iald (N := 12) rfl rfl).trans (pix fun _ => ?_)
  refine (t_X8_tire_70 _ _ _ _ _ _ _ _ _).trans ?_
  refine (x_iast (N := 12) rfl rfl).trans (pix fun _ => plt fun _ => ?_)
  refine (t_X8_tire_76 _ _ _ _ _).trans ?_
  refine x_goto.trans ?_
  exact (zrun_c rfl).trans (glr_X8_tire_2 _ _ _ _)
theorem s_X8_tire_55 {X : zX} (hX : zHX X) {c2 : zH → Nat → Int32 → Option zH} (h2 : ∀ σ L st r, gl_X8_tire_2 c2 σ L st = some r → zGW X 88 krV 2 σ L st r) : ∀ σ L st r, gl_X8_tire_55 (j_X8_tire_55 c2) σ L st = some r → zGW X 88 krV 55 σ L st r := by
  intro σ L st r h
  unfold gl_X8_tire_55 at h
  split at h
  · exact zin_ok (hy_X8_tire hX) bk_X8_tire (fun t f hf => by
    by_cases e2 : t = 2
    · rw [if_pos e2] at hf; subst e2; cases hf; exact h2
    rw [if_neg e2] at hf
    cases hf) ((e_X8_tire_55 _ _ _ _ _ _ _).symm.trans h)
  · cases h
noncomputable def k_X8_tire_2 (c82 : zH → Nat → Option zH) : Nat → zH → Nat → Int32 → Option zH
  | 0, _, _, _ => none
  | n + 1, σ, i0, x1 =>
    if x1 < (σ.1 0 (i0 + 1) 0) then
      (d_X8_isAsleep σ i0 x1).bind fun p1 =>
      if p1.2 = 0 then
        ix x1 12 fun j2 =>
        (j_X8_tire_55 (k_X8_tire_2 c82 n)) p1.1 i0 x1 (i0 + 0) x1 (zmn (999 : Int32) ((p1.1.1 31 (i0 + 0) j2) + (1 : Int32)))
      else
        ix x1 12 fun j3 =>
        (j_X8_tire_55 (k_X8_tire_2 c82 n)) p1.1 i0 x1 (i0 + 0) x1 (zmx (0 : Int32) ((p1.1.1 31 (i0 + 0) j3) - (2 : Int32)))
    else
      c82 σ i0
theorem e_X8_tire_2 (c82 : zH → Nat → Option zH) (n : Nat) (σ : zH) (i0 : Nat) (x1 : Int32)  : k_X8_tire_2 c82 (n + 1) σ i0 x1 = zin cc_X8_tire (fun t => if t = 55 then some (gl_X8_tire_55 (j_X8_tire_55 (k_X8_tire_2 c82 n))) else if t = 82 then some (gl_X8_tire_82 c82) else none) 9 krV b_X8_tire 2 σ [vR 8 i0, vI x1] [] := by
  rw [k_X8_tire_2]
  refine Eq.symm ((zin_b (es := q_X8_tire_2) rfl).trans ?_)
  refine (t_X8_tire_2 _ _ _ _).trans ?_
  refine x_icmp.trans (pif_ge ?_ ?_)
  · exact (zrun_c rfl).trans (glr_X8_tire_82 _ _ _ _)
  · refine (t_X8_tire_13 _ _ _ _).trans ?_
    refine (x_callV rfl rfl rfl rfl).trans ((cl_X8_tire_X8_isAsleep _ _ _).trans ((gr_X8_isAsleep _ _ _ _).trans (pbd fun _ => ?_)))
    refine x_if.trans (pif_eq ?_ ?_)
    · refine (zrun_b (es := q_X8_tire_41) rfl rfl).trans ?_
      refine (t_X8_tire_41 _ _ _ _ _ _ _).trans ?_
      refine (x_iald (N := 12) rfl rfl).trans (pix fun _ => ?_)
      refine (t_X8_tire_50 _ _ _ _ _ _ _ _ _).trans ?_
      refine x_cut.trans ?_
      exact (zrun_c rfl).trans (glr_X8_tire_55 _ _ _ _ _ _ _)
    · refine (t_X8_tire_26 _ _ _ _ _ _ _).trans ?_
      refine (x_iald (N := 12) rfl rfl).trans (pix fun _ => ?_)
      refine (t_X8_tire_33 _ _ _ _ _ _ _ _ _).trans ?_
      refine x_goto.trans ?_
      exact (zrun_c rfl).trans (glr_X8_tire_55 _ _ _ _ _ _ _)
theorem s_X8_tire_2 {X : zX} (hX : zHX X) {c82 : zH → Nat → Option zH} (h82 : ∀ σ L st r, gl_X8_tire_82 c82 σ L st = some r → zGW X 88 krV 82 σ L st r) : ∀ n σ L st r, gl_X8_tire_2 (k_X8_tire_2 c82 n) σ L st = some r → zGW X 88 krV 2 σ L st r := by
  intro n
  induction n with
  | zero =>
    intro σ L st r h
    unfold gl_X8_tire_2 at h
    split at h <;> cases h
  | succ n ih =>
    intro σ L st r h
    unfold gl_X8_tire_2 at h
    split at h
    · exact zin_ok (hy_X8_tire hX) bk_X8_tire (fun t f hf => by
      by_cases e55 : t = 55
      · rw [if_pos e55] at hf; subst e55; cases hf; exact (s_X8_tire_55 hX ih)
      rw [if_neg e55] at hf
      by_cases e82 : t = 82
      · rw [if_pos e82] at hf; subst e82; cases hf; exact h82
      rw [if_neg e82] at hf
      cases hf) ((e_X8_tire_2 _ _ _ _ _).symm.trans h)
    · cases h
noncomputable def j_X8_tire_82  (σ : zH) (i0 : Nat) : Option zH :=
  zlet (uI σ 8 i0 14 (zmn (σ.1 8 i0 14) (σ.1 8 i0 5))) fun σ1 =>
  if (σ1.1 8 i0 5) < (σ1.1 0 (i0 + 1) 12) then
    zlet (uI σ1 8 i0 12 ((σ1.1 8 i0 12) + (1 : Int32))) fun σ2 =>
    if (σ2.1 8 i0 13) = (-2 : Int32) then
      zlet (uI σ2 8 i0 13 (σ2.1 8 i0 1)) fun σ3 =>
      some σ3
    else
      some σ2
  else
    some σ1
theorem e_X8_tire_82  (σ : zH) (i0 : Nat) (y1 : zAV) : j_X8_tire_82 σ i0 = zin cc_X8_tire (fun t => none) 9 krV b_X8_tire 82 σ [vR 8 i0, y1] [] := by
  unfold j_X8_tire_82
  refine Eq.symm ((zin_b (es := q_X8_tire_82) rfl).trans ?_)
  refine (t_X8_tire_82 _ _ _ _).trans ?_
  refine x_pf0.trans (plt fun _ => ?_)
  refine (t_X8_tire_97 _ _ _ _).trans ?_
  refine x_icmp.trans (pif_ge ?_ ?_)
  · refine (zrun_b (es := q_X8_tire_138) rfl rfl).trans ?_
    exact x_vret
  · refine (t_X8_tire_111 _ _ _ _ _).trans ?_
    refine x_pf0.trans (plt fun _ => ?_)
    refine (t_X8_tire_121 _ _ _ _ _).trans ?_
    refine x_icmp.trans (pif_ne ?_ ?_)
    · refine (zrun_b (es := q_X8_tire_138) rfl rfl).trans ?_
      exact x_vret
    · refine (t_X8_tire_130 _ _ _ _).trans ?_
      refine x_pf0.trans (plt fun _ => ?_)
      exact x_vret
theorem s_X8_tire_82 {X : zX} (hX : zHX X)   : ∀ σ L st r, gl_X8_tire_82 j_X8_tire_82 σ L st = some r → zGW X 88 krV 82 σ L st r := by
  intro σ L st r h
  unfold gl_X8_tire_82 at h
  split at h
  · exact zin_ok (hy_X8_tire hX) bk_X8_tire (fun t f hf => by
    cases hf) ((e_X8_tire_82 _ _ _).symm.trans h)
  · cases h
noncomputable def d_X8_tire (σ : zH) (ia0 : Nat) : Option zH :=
  (k_X8_tire_2 j_X8_tire_82 zN) σ ia0 (0 : Int32)
theorem e_X8_tire (σ : zH) (ia0 : Nat) : d_X8_tire σ ia0 = zin cc_X8_tire (fun t => if t = 2 then some (gl_X8_tire_2 (k_X8_tire_2 j_X8_tire_82 zN)) else none) 9 krV b_X8_tire 0 σ [vR 8 ia0, vU] [] := by
  unfold d_X8_tire
  refine Eq.symm ((zin_b (es := q_X8_tire_0) rfl).trans ?_)
  refine (t_X8_tire_0 _ _ _ _ _).trans ?_
  refine x_cut.trans ?_
  exact (zrun_c rfl).trans (glr_X8_tire_2 _ _ _ _)
noncomputable def g_X8_tire {ρ : Type} (σ : zH) (av : List zAV) (q : zH → zAV → Option ρ) : Option ρ := match av with
  | [.inr (.inr (.inl (8, ia0)))] => (d_X8_tire σ ia0).bind fun σ => q σ vU
  | _ => none
theorem gr_X8_tire {ρ : Type} (σ : zH) (ia0 : Nat) (q : zH → zAV → Option ρ) : g_X8_tire σ [vR 8 ia0] q = (d_X8_tire σ ia0).bind fun σ => q σ vU := rfl
theorem c_X8_tire {ρ : Type} {X : zX} (hX : zHX X) {σ : zH} {av : List zAV} {q : zH → zAV → Option ρ} {r : ρ} (h : g_X8_tire σ av q = some r) (hv : ∀ a ∈ av, zval X a) : zcon X 88 σ av q r := by
  unfold g_X8_tire at h
  split at h
  · exact zcon_V (n := 88) (ml := 2) (rc := 9) (st := 0) (kd := 8) (np := 0) (by decide +kernel) rfl ⟨_, _, rfl, rfl⟩ (Nat.le_of_ble_eq_true rfl) hv h (fun y h1 => (zin_ok (hy_X8_tire hX) bk_X8_tire (fun t f hf => by
      by_cases e2 : t = 2
      · rw [if_pos e2] at hf; subst e2; cases hf; exact ((fun σ L st r h => s_X8_tire_2 hX (s_X8_tire_82 hX) zN σ L st r h))
      rw [if_neg e2] at hf
      cases hf) ((e_X8_tire _ _).symm.trans h1)))
  · cases h
/-! SleepWaves$State.passQuarters(LSleepWaves$Law;I)V -/
def q_X8_passQuarters_0 : List zEnt := zEk 0 (.iconst 0) 1 0 :: zE 1 (.istore_n 3) 1 :: [zE 2 .nop 0]
def q_X8_passQuarters_64 : List zEnt := zEa 64 (.goto (-62)) 3 2 :: []
def q_X8_passQuarters_61 : List zEnt := zEk 61 (.iinc 3 1) 3 1 :: q_X8_passQuarters_64
def q_X8_passQuarters_58 : List zEnt := zEf 58 (.putfield 48) 3 8 1 88 (0, 0, 0) :: q_X8_passQuarters_61
def q_X8_passQuarters_51 : List zEnt := zE 51 (.aload_n 0) 1 :: zE 52 .dup 1 :: zEf 53 (.getfield 48) 3 8 1 88 (0, 0, 0) :: zEk 56 (.iconst 1) 1 1 :: zE 57 .iadd 1 :: q_X8_passQuarters_58
def q_X8_passQuarters_48 : List zEnt := zEc 48 (.invokevirtual 123) 3 88 1 69 1 :: q_X8_passQuarters_51
def q_X8_passQuarters_47 : List zEnt := zE 47 (.aload_n 0) 1 :: q_X8_passQuarters_48
def q_X8_passQuarters_44 : List zEnt := zEc 44 (.invokevirtual 120) 3 85 1 66 1 :: q_X8_passQuarters_47
def q_X8_passQuarters_43 : List zEnt := zE 43 (.aload_n 0) 1 :: q_X8_passQuarters_44
def q_X8_passQuarters_40 : List zEnt := zEc 40 (.invokevirtual 116) 3 84 3 64 1 :: q_X8_passQuarters_43
def q_X8_passQuarters_36 : List zEnt := zE 36 (.aload_n 0) 1 :: zE 37 (.aload_n 1) 1 :: zE 38 (.iload 4) 2 :: q_X8_passQuarters_40
def q_X8_passQuarters_33 : List zEnt := zEc 33 (.invokevirtual 112) 3 83 2 53 1 :: q_X8_passQuarters_36
def q_X8_passQuarters_31 : List zEnt := zE 31 (.aload_n 0) 1 :: zE 32 (.aload_n 1) 1 :: q_X8_passQuarters_33
def q_X8_passQuarters_28 : List zEnt := zEf 28 (.putfield 41) 3 8 16 122 (0, 0, 0) :: q_X8_passQuarters_31
def q_X8_passQuarters_25 : List zEnt := zEc 25 (.invokevirtual 109) 3 2 2 52 0 :: q_X8_passQuarters_28
def q_X8_passQuarters_24 : List zEnt := zE 24 .irem 1 :: q_X8_passQuarters_25
def q_X8_passQuarters_7 : List zEnt := zE 7 (.aload_n 0) 1 :: zEf 8 (.getfield 54) 3 8 4 96 (0, 0, 0) :: zE 11 (.istore 4) 2 :: zE 13 (.aload_n 0) 1 :: zE 14 (.aload_n 0) 1 :: zEf 15 (.getfield 12) 3 8 0 84 (1, 0, 1) :: zE 18 (.aload_n 0) 1 :: zEf 19 (.getfield 48) 3 8 1 88 (0, 0, 0) :: zEk 22 (.bipush 96) 2 96 :: q_X8_passQuarters_24
def q_X8_passQuarters_4 : List zEnt := zEa 4 (.if_icmp .ge 63) 3 67 :: q_X8_passQuarters_7
def q_X8_passQuarters_2 : List zEnt := zE 2 (.iload_n 3) 1 :: zE 3 (.iload_n 2) 1 :: q_X8_passQuarters_4
def q_X8_passQuarters_67 : List zEnt := zE 67 .return_ 1 :: []
def b_X8_passQuarters : List (Nat × List zEnt) := [(0, q_X8_passQuarters_0), (2, q_X8_passQuarters_2), (67, q_X8_passQuarters_67)]
theorem bk_X8_passQuarters : zchB 82 b_X8_passQuarters = true := by decide +kernel
noncomputable def cc_X8_passQuarters {ρ : Type} : Nat → zH → List zAV → (zH → zAV → Option ρ) → Option ρ := fun n σ av q => if n = 2 then g_X0_firstBell σ av q else if n = 83 then g_X8_lieDownBy σ av q else if n = 84 then g_X8_getUpBy σ av q else if n = 85 then g_X8_snore σ av q else if n = 88 then g_X8_tire σ av q else none
theorem cs_X8_passQuarters {ρ : Type} {X : zX} (hX : zHX X) : zCS X (cc_X8_passQuarters (ρ := ρ)) := by
  intro n σ av q r h hv
  unfold cc_X8_passQuarters at h
  by_cases e_X0_firstBell : n = 2
  · rw [if_pos e_X0_firstBell] at h
    subst e_X0_firstBell
    exact c_X0_firstBell hX h hv
  rw [if_neg e_X0_firstBell] at h
  by_cases e_X8_lieDownBy : n = 83
  · rw [if_pos e_X8_lieDownBy] at h
    subst e_X8_lieDownBy
    exact c_X8_lieDownBy hX h hv
  rw [if_neg e_X8_lieDownBy] at h
  by_cases e_X8_getUpBy : n = 84
  · rw [if_pos e_X8_getUpBy] at h
    subst e_X8_getUpBy
    exact c_X8_getUpBy hX h hv
  rw [if_neg e_X8_getUpBy] at h
  by_cases e_X8_snore : n = 85
  · rw [if_pos e_X8_snore] at h
    subst e_X8_snore
    exact c_X8_snore hX h hv
  rw [if_neg e_X8_snore] at h
  by_cases e_X8_tire : n = 88
  · rw [if_pos e_X8_tire] at h
    subst e_X8_tire
    exact c_X8_tire hX h hv
  rw [if_neg e_X8_tire] at h
  cases h
theorem cl_X8_passQuarters_X0_firstBell {ρ : Type} (σ : zH) (av : List zAV) (q : zH → zAV → Option ρ) : cc_X8_passQuarters 2 σ av q = g_X0_firstBell σ av q := rfl
theorem cl_X8_passQuarters_X8_lieDownBy {ρ : Type} (σ : zH) (av : List zAV) (q : zH → zAV → Option ρ) : cc_X8_passQuarters 83 σ av q = g_X8_lieDownBy σ av q := rfl
theorem cl_X8_passQuarters_X8_getUpBy {ρ : Type} (σ : zH) (av : List zAV) (q : zH → zAV → Option ρ) : cc_X8_passQuarters 84 σ av q = g_X8_getUpBy σ av q := rfl
theorem cl_X8_passQuarters_X8_snore {ρ : Type} (σ : zH) (av : List zAV) (q : zH → zAV → Option ρ) : cc_X8_passQuarters 85 σ av q = g_X8_snore σ av q := rfl
theorem cl_X8_passQuarters_X8_tire {ρ : Type} (σ : zH) (av : List zAV) (q : zH → zAV → Option ρ) : cc_X8_passQuarters 88 σ av q = g_X8_tire σ av q := rfl
theorem hy_X8_passQuarters {ρ : Type} {X : zX} (hX : zHX X) : zHY X 82 (cc_X8_passQuarters (ρ := ρ)) := zHX.hY hX (cs_X8_passQuarters hX) (zmok_all 82 (by decide))
def gl_X8_passQuarters_2 {ρ : Type} (f : zH → Nat → Nat → Int32 → Int32 → Option ρ) (σ : zH) (L st : List zAV) : Option ρ := match L, st with
  | [.inr (.inr (.inl (8, i0))), .inr (.inr (.inl (4, i1))), .inl x2, .inl x3, _], [] => f σ i0 i1 x2 x3
  | _, _ => none
theorem glr_X8_passQuarters_2 {ρ : Type} (f : zH → Nat → Nat → Int32 → Int32 → Option ρ) (σ : zH) (i0 : Nat) (i1 : Nat) (x2 : Int32) (x3 : Int32) (y4 : zAV) : gl_X8_passQuarters_2 f σ [vR 8 i0, vR 4 i1, vI x2, vI x3, y4] [] = f σ i0 i1 x2 x3 := rfl
theorem t_X8_passQuarters_0 {G : Nat → zH → List zAV → List zAV → Option zH} (es : List zEnt) (σ : zH) (i0 : Nat) (i1 : Nat) (x2 : Int32) (y3 : zAV) (y4 : zAV) (w0 : Int32) : zev cc_X8_passQuarters G 9 krV (zEk 0 (.iconst 0) 1 w0 :: zE 1 (.istore_n 3) 1 :: es) σ [vR 8 i0, vR 4 i1, vI x2, y3, y4] [] = zev cc_X8_passQuarters G 9 krV es σ [vR 8 i0, vR 4 i1, vI x2, vI w0, y4] [] := rfl
theorem t_X8_passQuarters_2 {G : Nat → zH → List zAV → List zAV → Option zH} (es : List zEnt) (σ : zH) (i0 : Nat) (i1 : Nat) (x2 : Int32) (x3 : Int32) (y4 : zAV)  : zev cc_X8_passQuarters G 9 krV (zE 2 (.iload_n 3) 1 :: zE 3 (.iload_n 2) 1 :: es) σ [vR 8 i0, vR 4 i1, vI x2, vI x3, y4] [] = zev cc_X8_passQuarters G 9 krV es σ [vR 8 i0, vR 4 i1, vI x2, vI x3, y4] [vI x2, vI x3] := rfl
theorem t_X8_passQuarters_7 {G : Nat → zH → List zAV → List zAV → Option zH} (es : List zEnt) (σ : zH) (i0 : Nat) (i1 : Nat) (x2 : Int32) (x3 : Int32) (y4 : zAV) (w22 : Int32) : zev cc_X8_passQuarters G 9 krV (zE 7 (.aload_n 0) 1 :: zEf 8 (.getfield 54) 3 8 4 96 (0, 0, 0) :: zE 11 (.istore 4) 2 :: zE 13 (.aload_n 0) 1 :: zE 14 (.aload_n 0) 1 :: zEf 15 (.getfield 12) 3 8 0 84 (1, 0, 1) :: zE 18 (.aload_n 0) 1 :: zEf 19 (.getfield 48) 3 8 1 88 (0, 0, 0) :: zEk 22 (.bipush 96) 2 w22 :: es) σ [vR 8 i0, vR 4 i1, vI x2, vI x3, y4] [] = zev cc_X8_passQuarters G 9 krV es σ [vR 8 i0, vR 4 i1, vI x2, vI x3, vI (σ.1 8 i0 4)] [vI w22, vI (σ.1 8 i0 1), vR 0 (i0 + 1), vR 8 i0] := rfl
theorem t_X8_passQuarters_31 {G : Nat → zH → List zAV → List zAV → Option zH} (es : List zEnt) (σ : zH) (i0 : Nat) (i1 : Nat) (x2 : Int32) (x3 : Int32) (x4 : Int32)   : zev cc_X8_passQuarters G 9 krV (zE 31 (.aload_n 0) 1 :: zE 32 (.aload_n 1) 1 :: es) σ [vR 8 i0, vR 4 i1, vI x2, vI x3, vI x4] [] = zev cc_X8_passQuarters G 9 krV es σ [vR 8 i0, vR 4 i1, vI x2, vI x3, vI x4] [vR 4 i1, vR 8 i0] := rfl
theorem t_X8_passQuarters_36 {G : Nat → zH → List zAV → List zAV → Option zH} (es : List zEnt) (σ : zH) (i0 : Nat) (i1 : Nat) (x2 : Int32) (x3 : Int32) (x4 : Int32)   : zev cc_X8_passQuarters G 9 krV (zE 36 (.aload_n 0) 1 :: zE 37 (.aload_n 1) 1 :: zE 38 (.iload 4) 2 :: es) σ [vR 8 i0, vR 4 i1, vI x2, vI x3, vI x4] [] = zev cc_X8_passQuarters G 9 krV es σ [vR 8 i0, vR 4 i1, vI x2, vI x3, vI x4] [vI x4, vR 4 i1, vR 8 i0] := rfl
theorem t_X8_passQuarters_43 {G : Nat → zH → List zAV → List zAV → Option zH} (es : List zEnt) (σ : zH) (i0 : Nat) (i1 : Nat) (x2 : Int32) (x3 : Int32) (y4 : zAV)  : zev cc_X8_passQuarters G 9 krV (zE 43 (.aload_n 0) 1 :: es) σ [vR 8 i0, vR 4 i1, vI x2, vI x3, y4] [] = zev cc_X8_passQuarters G 9 krV es σ [vR 8 i0, vR 4 i1, vI x2, vI x3, y4] [vR 8 i0] := rfl
theorem t_X8_passQuarters_47 {G : Nat → zH → List zAV → List zAV → Option zH} (es : List zEnt) (σ : zH) (i0 : Nat) (i1 : Nat) (x2 : Int32) (x3 : Int32) (y4 : zAV)  : zev cc_X8_passQuarters G 9 krV (zE 47 (.aload_n 0) 1 :: es) σ [vR 8 i0, vR 4 i1, vI x2, vI x3, y4] [] = zev cc_X8_passQuarters G 9 krV es σ [vR 8 i0, vR 4 i1, vI x2, vI x3, y4] [vR 8 i0] := rfl
theorem t_X8_passQuarters_51 {G : Nat → zH → List zAV → List zAV → Option zH} (es : List zEnt) (σ : zH) (i0 : Nat) (i1 : Nat) (x2 : Int32) (x3 : Int32) (y4 : zAV) (w56 : Int32) : zev cc_X8_passQuarters G 9 krV (zE 51 (.aload_n 0) 1 :: zE 52 .dup 1 :: zEf 53 (.getfield 48) 3 8 1 88 (0, 0, 0) :: zEk 56 (.iconst 1) 1 w56 :: zE 57 .iadd 1 :: es) σ [vR 8 i0, vR 4 i1, vI x2, vI x3, y4] [] = zev cc_X8_passQuarters G 9 krV es σ [vR 8 i0, vR 4 i1, vI x2, vI x3, y4] [vI ((σ.1 8 i0 1) + w56), vR 8 i0] := rfl
theorem t_X8_passQuarters_61 {G : Nat → zH → List zAV → List zAV → Option zH} (es : List zEnt) (σ : zH) (i0 : Nat) (i1 : Nat) (x2 : Int32) (x3 : Int32) (y4 : zAV) (w61 : Int32) : zev cc_X8_passQuarters G 9 krV (zEk 61 (.iinc 3 1) 3 w61 :: es) σ [vR 8 i0, vR 4 i1, vI x2, vI x3, y4] [] = zev cc_X8_passQuarters G 9 krV es σ [vR 8 i0, vR 4 i1, vI x2, vI (x3 + w61), y4] [] := rfl
noncomputable def k_X8_passQuarters_2  : Nat → zH → Nat → Nat → Int32 → Int32 → Option zH
  | 0, _, _, _, _, _ => none
  | n + 1, σ, i0, i1, x2, x3 =>
    if x3 < x2 then
      (d_X0_firstBell σ (i0 + 1) ((σ.1 8 i0 1) - (σ.1 8 i0 1) / (96 : Int32) * (96 : Int32))).bind fun p1 =>
      zlet (uI p1.1 8 i0 16 p1.2) fun σ2 =>
      (d_X8_lieDownBy σ2 i0 i1).bind fun σ3 =>
      (d_X8_getUpBy σ3 i0 i1 (σ.1 8 i0 4)).bind fun σ4 =>
      (d_X8_snore σ4 i0).bind fun σ5 =>
      (d_X8_tire σ5 i0).bind fun σ6 =>
      zlet (uI σ6 8 i0 1 ((σ6.1 8 i0 1) + (1 : Int32))) fun σ7 =>
      (k_X8_passQuarters_2 n) σ7 i0 i1 x2 (x3 + (1 : Int32))
    else
      some σ
theorem e_X8_passQuarters_2  (n : Nat) (σ : zH) (i0 : Nat) (i1 : Nat) (x2 : Int32) (x3 : Int32) (y4 : zAV) : k_X8_passQuarters_2 (n + 1) σ i0 i1 x2 x3 = zin cc_X8_passQuarters (fun t => if t = 2 then some (gl_X8_passQuarters_2 (k_X8_passQuarters_2 n)) else none) 9 krV b_X8_passQuarters 2 σ [vR 8 i0, vR 4 i1, vI x2, vI x3, y4] [] := by
  rw [k_X8_passQuarters_2]
  refine Eq.symm ((zin_b (es := q_X8_passQuarters_2) rfl).trans ?_)
  refine (t_X8_passQuarters_2 _ _ _ _ _ _ _).trans ?_
  refine x_icmp.trans (pif_ge ?_ ?_)
  · refine (zrun_b (es := q_X8_passQuarters_67) rfl rfl).trans ?_
    exact x_vret
  · refine (t_X8_passQuarters_7 _ _ _ _ _ _ _ _).trans ?_
    refine (x_irem.trans (nz_l (by decide +kernel))).trans ?_
    refine (x_callV rfl rfl rfl rfl).trans ((cl_X8_passQuarters_X0_firstBell _ _ _).trans ((gr_X0_firstBell _ _ _ _).trans (pbd fun _ => ?_)))
    refine x_pf0.trans (plt fun _ => ?_)
    refine (t_X8_passQuarters_31 _ _ _ _ _ _ _).trans ?_
    refine (x_callV rfl rfl rfl rfl).trans ((cl_X8_passQuarters_X8_lieDownBy _ _ _).trans ((gr_X8_lieDownBy _ _ _ _).trans (pbd fun _ => ?_)))
    refine (t_X8_passQuarters_36 _ _ _ _ _ _ _).trans ?_
    refine (x_callV rfl rfl rfl rfl).trans ((cl_X8_passQuarters_X8_getUpBy _ _ _).trans ((gr_X8_getUpBy _ _ _ _ _).trans (pbd fun _ => ?_)))
    refine (t_X8_passQuarters_43 _ _ _ _ _ _ _).trans ?_
    refine (x_callV rfl rfl rfl rfl).trans ((cl_X8_passQuarters_X8_snore _ _ _).trans ((gr_X8_snore _ _ _).trans (pbd fun _ => ?_)))
    refine (t_X8_passQuarters_47 _ _ _ _ _ _ _).trans ?_
    refine (x_callV rfl rfl rfl rfl).trans ((cl_X8_passQuarters_X8_tire _ _ _).trans ((gr_X8_tire _ _ _).trans (pbd fun _ => ?_)))
    refine (t_X8_passQuarters_51 _ _ _ _ _ _ _ _).trans ?_
    refine x_pf0.trans (plt fun _ => ?_)
    refine (t_X8_passQuarters_61 _ _ _ _ _ _ _ _).trans ?_
    refine x_goto.trans ?_
    exact (zrun_c rfl).trans (glr_X8_passQuarters_2 _ _ _ _ _ _ _)
theorem s_X8_passQuarters_2 {X : zX} (hX : zHX X)   : ∀ n σ L st r, gl_X8_passQuarters_2 (k_X8_passQuarters_2 n) σ L st = some r → zGW X 82 krV 2 σ L st r := by
  intro n
  induction n with
  | zero =>
    intro σ L st r h
    unfold gl_X8_passQuarters_2 at h
    split at h <;> cases h
  | succ n ih =>
    intro σ L st r h
    unfold gl_X8_passQuarters_2 at h
    split at h
    · exact zin_ok (hy_X8_passQuarters hX) bk_X8_passQuarters (fun t f hf => by
      by_cases e2 : t = 2
      · rw [if_pos e2] at hf; subst e2; cases hf; exact ih
      rw [if_neg e2] at hf
      cases hf) ((e_X8_passQuarters_2 _ _ _ _ _ _ _).symm.trans h)
    · cases h
noncomputable def d_X8_passQuarters (σ : zH) (ia0 : Nat) (ia1 : Nat) (xa2 : Int32) : Option zH :=
  (k_X8_passQuarters_2 zN) σ ia0 ia1 xa2 (0 : Int32)
theorem e_X8_passQuarters (σ : zH) (ia0 : Nat) (ia1 : Nat) (xa2 : Int32) : d_X8_passQuarters σ ia0 ia1 xa2 = zin cc_X8_passQuarters (fun t => if t = 2 then some (gl_X8_passQuarters_2 (k_X8_passQuarters_2 zN)) else none) 9 krV b_X8_passQuarters 0 σ [vR 8 ia0, vR 4 ia1, vI xa2, vU, vU] [] := by
  unfold d_X8_passQuarters
  refine Eq.symm ((zin_b (es := q_X8_passQuarters_0) rfl).trans ?_)
  refine (t_X8_passQuarters_0 _ _ _ _ _ _ _ _).trans ?_
  refine x_cut.trans ?_
  exact (zrun_c rfl).trans (glr_X8_passQuarters_2 _ _ _ _ _ _ _)
noncomputable def g_X8_passQuarters {ρ : Type} (σ : zH) (av : List zAV) (q : zH → zAV → Option ρ) : Option ρ := match av with
  | [.inr (.inr (.inl (8, ia0))), .inr (.inr (.inl (4, ia1))), .inl xa2] => (d_X8_passQuarters σ ia0 ia1 xa2).bind fun σ => q σ vU
  | _ => none
theorem gr_X8_passQuarters {ρ : Type} (σ : zH) (ia0 : Nat) (ia1 : Nat) (xa2 : Int32) (q : zH → zAV → Option ρ) : g_X8_passQuarters σ [vR 8 ia0, vR 4 ia1, vI xa2] q = (d_X8_passQuarters σ ia0 ia1 xa2).bind fun σ => q σ vU := rfl
theorem c_X8_passQuarters {ρ : Type} {X : zX} (hX : zHX X) {σ : zH} {av : List zAV} {q : zH → zAV → Option ρ} {r : ρ} (h : g_X8_passQuarters σ av q = some r) (hv : ∀ a ∈ av, zval X a) : zcon X 82 σ av q r := by
  unfold g_X8_passQuarters at h
  split at h
  · exact zcon_V (n := 82) (ml := 5) (rc := 9) (st := 0) (kd := 8) (np := 2) (by decide +kernel) rfl ⟨_, _, rfl, rfl⟩ (Nat.le_of_ble_eq_true rfl) hv h (fun y h1 => (zin_ok (hy_X8_passQuarters hX) bk_X8_passQuarters (fun t f hf => by
      by_cases e2 : t = 2
      · rw [if_pos e2] at hf; subst e2; cases hf; exact ((fun σ L st r h => s_X8_passQuarters_2 hX  zN σ L st r h))
      rw [if_neg e2] at hf
      cases hf) ((e_X8_passQuarters _ _ _ _).symm.trans h1)))
  · cases h
/-! SleepWaves$Forecast.play(LSleepWaves$Law;I)V -/
def q_X2_play_13 : List zEnt := zE 13 .return_ 1 :: []
def q_X2_play_10 : List zEnt := zEc 10 (.invokevirtual 41) 3 82 3 92 1 :: q_X2_play_13
def q_X2_play_4 : List zEnt := zE 4 (.aload_n 0) 1 :: zEf 5 (.getfield 12) 3 2 1 128 (2, 8, 5) :: zE 8 (.aload_n 1) 1 :: zE 9 (.iload_n 2) 1 :: q_X2_play_10
def q_X2_play_1 : List zEnt := zEc 1 (.invokevirtual 38) 3 15 1 89 1 :: q_X2_play_4
def q_X2_play_0 : List zEnt := zE 0 (.aload_n 0) 1 :: q_X2_play_1
def b_X2_play : List (Nat × List zEnt) := [(0, q_X2_play_0)]
theorem bk_X2_play : zchB 17 b_X2_play = true := by decide +kernel
noncomputable def cc_X2_play {ρ : Type} : Nat → zH → List zAV → (zH → zAV → Option ρ) → Option ρ := fun n σ av q => if n = 15 then g_X2_restart σ av q else if n = 82 then g_X8_passQuarters σ av q else none
theorem cs_X2_play {ρ : Type} {X : zX} (hX : zHX X) : zCS X (cc_X2_play (ρ := ρ)) := by
  intro n σ av q r h hv
  unfold cc_X2_play at h
  by_cases e_X2_restart : n = 15
  · rw [if_pos e_X2_restart] at h
    subst e_X2_restart
    exact c_X2_restart hX h hv
  rw [if_neg e_X2_restart] at h
  by_cases e_X8_passQuarters : n = 82
  · rw [if_pos e_X8_passQuarters] at h
    subst e_X8_passQuarters
    exact c_X8_passQuarters hX h hv
  rw [if_neg e_X8_passQuarters] at h
  cases h
theorem cl_X2_play_X2_restart {ρ : Type} (σ : zH) (av : List zAV) (q : zH → zAV → Option ρ) : cc_X2_play 15 σ av q = g_X2_restart σ av q := rfl
theorem cl_X2_play_X8_passQuarters {ρ : Type} (σ : zH) (av : List zAV) (q : zH → zAV → Option ρ) : cc_X2_play 82 σ av q = g_X8_passQuarters σ av q := rfl
theorem hy_X2_play {ρ : Type} {X : zX} (hX : zHX X) : zHY X 17 (cc_X2_play (ρ := ρ)) := zHX.hY hX (cs_X2_play hX) (zmok_all 17 (by decide))
theorem t_X2_play_0 {G : Nat → zH → List zAV → List zAV → Option zH} (es : List zEnt) (σ : zH) (i1 : Nat) (x2 : Int32)   : zev cc_X2_play G 9 krV (zE 0 (.aload_n 0) 1 :: es) σ [vR 2 0, vR 4 i1, vI x2] [] = zev cc_X2_play G 9 krV es σ [vR 2 0, vR 4 i1, vI x2] [vR 2 0] := rfl
theorem t_X2_play_4 {G : Nat → zH → List zAV → List zAV → Option zH} (es : List zEnt) (σ : zH) (i1 : Nat) (x2 : Int32)   : zev cc_X2_play G 9 krV (zE 4 (.aload_n 0) 1 :: zEf 5 (.getfield 12) 3 2 1 128 (2, 8, 5) :: zE 8 (.aload_n 1) 1 :: zE 9 (.iload_n 2) 1 :: es) σ [vR 2 0, vR 4 i1, vI x2] [] = zev cc_X2_play G 9 krV es σ [vR 2 0, vR 4 i1, vI x2] [vI x2, vR 4 i1, vR 8 5] := rfl
noncomputable def d_X2_play (σ : zH) (ia1 : Nat) (xa2 : Int32) : Option zH :=
  (d_X2_restart σ).bind fun σ1 =>
  (d_X8_passQuarters σ1 5 ia1 xa2).bind fun σ2 =>
  some σ2
theorem e_X2_play (σ : zH) (ia1 : Nat) (xa2 : Int32) : d_X2_play σ ia1 xa2 = zin cc_X2_play (fun t => none) 9 krV b_X2_play 0 σ [vR 2 0, vR 4 ia1, vI xa2] [] := by
  unfold d_X2_play
  refine Eq.symm ((zin_b (es := q_X2_play_0) rfl).trans ?_)
  refine (t_X2_play_0 _ _ _ _).trans ?_
  refine (x_callV rfl rfl rfl rfl).trans ((cl_X2_play_X2_restart _ _ _).trans ((gr_X2_restart _ _).trans (pbd fun _ => ?_)))
  refine (t_X2_play_4 _ _ _ _).trans ?_
  refine (x_callV rfl rfl rfl rfl).trans ((cl_X2_play_X8_passQuarters _ _ _).trans ((gr_X8_passQuarters _ _ _ _ _).trans (pbd fun _ => ?_)))
  exact x_vret
noncomputable def g_X2_play {ρ : Type} (σ : zH) (av : List zAV) (q : zH → zAV → Option ρ) : Option ρ := match av with
  | [.inr (.inr (.inl (2, 0))), .inr (.inr (.inl (4, ia1))), .inl xa2] => (d_X2_play σ ia1 xa2).bind fun σ => q σ vU
  | _ => none
theorem gr_X2_play {ρ : Type} (σ : zH) (ia1 : Nat) (xa2 : Int32) (q : zH → zAV → Option ρ) : g_X2_play σ [vR 2 0, vR 4 ia1, vI xa2] q = (d_X2_play σ ia1 xa2).bind fun σ => q σ vU := rfl
theorem c_X2_play {ρ : Type} {X : zX} (hX : zHX X) {σ : zH} {av : List zAV} {q : zH → zAV → Option ρ} {r : ρ} (h : g_X2_play σ av q = some r) (hv : ∀ a ∈ av, zval X a) : zcon X 17 σ av q r := by
  unfold g_X2_play at h
  split at h
  · exact zcon_V (n := 17) (ml := 3) (rc := 9) (st := 0) (kd := 2) (np := 2) (by decide +kernel) rfl ⟨_, _, rfl, rfl⟩ (Nat.le_of_ble_eq_true rfl) hv h (fun y h1 => (zin_ok (hy_X2_play hX) bk_X2_play (fun t f hf => by
      cases hf) ((e_X2_play _ _ _).symm.trans h1)))
  · cases h
/-! SleepWaves$State.wakeAll()I -/
def q_X8_wakeAll_0 : List zEnt := zEk 0 (.iconst 0) 1 0 :: zE 1 (.istore_n 1) 1 :: zEk 2 (.iconst 0) 1 0 :: zE 3 (.istore_n 2) 1 :: [zE 4 .nop 0]
def q_X8_wakeAll_36 : List zEnt := zEa 36 (.goto (-32)) 3 4 :: []
def q_X8_wakeAll_33 : List zEnt := zEk 33 (.iinc 2 1) 3 1 :: q_X8_wakeAll_36
def q_X8_wakeAll_30 : List zEnt := zEk 30 (.iinc 1 1) 3 1 :: q_X8_wakeAll_33
def q_X8_wakeAll_27 : List zEnt := zEc 27 (.invokevirtual 106) 3 79 4 65 1 :: q_X8_wakeAll_30
def q_X8_wakeAll_23 : List zEnt := zE 23 (.aload_n 0) 1 :: zE 24 (.iload_n 2) 1 :: zEk 25 (.iconst 2) 1 2 :: zEk 26 (.iconst (-1)) 1 (-1) :: q_X8_wakeAll_27
def q_X8_wakeAll_20 : List zEnt := zEa 20 (.ifCond .eq 13) 3 33 :: q_X8_wakeAll_23
def q_X8_wakeAll_17 : List zEnt := zEc 17 (.invokevirtual 92) 3 73 2 54 0 :: q_X8_wakeAll_20
def q_X8_wakeAll_15 : List zEnt := zE 15 (.aload_n 0) 1 :: zE 16 (.iload_n 2) 1 :: q_X8_wakeAll_17
def q_X8_wakeAll_12 : List zEnt := zEa 12 (.if_icmp .ge 27) 3 39 :: q_X8_wakeAll_15
def q_X8_wakeAll_4 : List zEnt := zE 4 (.iload_n 2) 1 :: zE 5 (.aload_n 0) 1 :: zEf 6 (.getfield 12) 3 8 0 84 (1, 0, 1) :: zEf 9 (.getfield 74) 3 0 0 31 (0, 0, 0) :: q_X8_wakeAll_12
def q_X8_wakeAll_40 : List zEnt := zE 40 .ireturn 1 :: []
def q_X8_wakeAll_39 : List zEnt := zE 39 (.iload_n 1) 1 :: q_X8_wakeAll_40
def b_X8_wakeAll : List (Nat × List zEnt) := [(0, q_X8_wakeAll_0), (4, q_X8_wakeAll_4), (33, q_X8_wakeAll_33), (39, q_X8_wakeAll_39)]
theorem bk_X8_wakeAll : zchB 81 b_X8_wakeAll = true := by decide +kernel
noncomputable def cc_X8_wakeAll {ρ : Type} : Nat → zH → List zAV → (zH → zAV → Option ρ) → Option ρ := fun n σ av q => if n = 73 then g_X8_isAsleep σ av q else if n = 79 then g_X8_getUp σ av q else none
theorem cs_X8_wakeAll {ρ : Type} {X : zX} (hX : zHX X) : zCS X (cc_X8_wakeAll (ρ := ρ)) := by
  intro n σ av q r h hv
  unfold cc_X8_wakeAll at h
  by_cases e_X8_isAsleep : n = 73
  · rw [if_pos e_X8_isAsleep] at h
    subst e_X8_isAsleep
    exact c_X8_isAsleep hX h hv
  rw [if_neg e_X8_isAsleep] at h
  by_cases e_X8_getUp : n = 79
  · rw [if_pos e_X8_getUp] at h
    subst e_X8_getUp
    exact c_X8_getUp hX h hv
  rw [if_neg e_X8_getUp] at h
  cases h
theorem cl_X8_wakeAll_X8_isAsleep {ρ : Type} (σ : zH) (av : List zAV) (q : zH → zAV → Option ρ) : cc_X8_wakeAll 73 σ av q = g_X8_isAsleep σ av q := rfl
theorem cl_X8_wakeAll_X8_getUp {ρ : Type} (σ : zH) (av : List zAV) (q : zH → zAV → Option ρ) : cc_X8_wakeAll 79 σ av q = g_X8_getUp σ av q := rfl
theorem hy_X8_wakeAll {ρ : Type} {X : zX} (hX : zHX X) : zHY X 81 (cc_X8_wakeAll (ρ := ρ)) := zHX.hY hX (cs_X8_wakeAll hX) (zmok_all 81 (by decide))
def gl_X8_wakeAll_4 {ρ : Type} (f : zH → Nat → Int32 → Int32 → Option ρ) (σ : zH) (L st : List zAV) : Option ρ := match L, st with
  | [.inr (.inr (.inl (8, i0))), .inl x1, .inl x2], [] => f σ i0 x1 x2
  | _, _ => none
theorem glr_X8_wakeAll_4 {ρ : Type} (f : zH → Nat → Int32 → Int32 → Option ρ) (σ : zH) (i0 : Nat) (x1 : Int32) (x2 : Int32)  : gl_X8_wakeAll_4 f σ [vR 8 i0, vI x1, vI x2] [] = f σ i0 x1 x2 := rfl
theorem t_X8_wakeAll_0 {G : Nat → zH → List zAV → List zAV → Option (zH × Int32)} (es : List zEnt) (σ : zH) (i0 : Nat) (y1 : zAV) (y2 : zAV) (w0 : Int32) (w2 : Int32) : zev cc_X8_wakeAll G 0 krI (zEk 0 (.iconst 0) 1 w0 :: zE 1 (.istore_n 1) 1 :: zEk 2 (.iconst 0) 1 w2 :: zE 3 (.istore_n 2) 1 :: es) σ [vR 8 i0, y1, y2] [] = zev cc_X8_wakeAll G 0 krI es σ [vR 8 i0, vI w0, vI w2] [] := rfl
theorem t_X8_wakeAll_4 {G : Nat → zH → List zAV → List zAV → Option (zH × Int32)} (es : List zEnt) (σ : zH) (i0 : Nat) (x1 : Int32) (x2 : Int32)   : zev cc_X8_wakeAll G 0 krI (zE 4 (.iload_n 2) 1 :: zE 5 (.aload_n 0) 1 :: zEf 6 (.getfield 12) 3 8 0 84 (1, 0, 1) :: zEf 9 (.getfield 74) 3 0 0 31 (0, 0, 0) :: es) σ [vR 8 i0, vI x1, vI x2] [] = zev cc_X8_wakeAll G 0 krI es σ [vR 8 i0, vI x1, vI x2] [vI (σ.1 0 (i0 + 1) 0), vI x2] := rfl
theorem t_X8_wakeAll_15 {G : Nat → zH → List zAV → List zAV → Option (zH × Int32)} (es : List zEnt) (σ : zH) (i0 : Nat) (x1 : Int32) (x2 : Int32)   : zev cc_X8_wakeAll G 0 krI (zE 15 (.aload_n 0) 1 :: zE 16 (.iload_n 2) 1 :: es) σ [vR 8 i0, vI x1, vI x2] [] = zev cc_X8_wakeAll G 0 krI es σ [vR 8 i0, vI x1, vI x2] [vI x2, vR 8 i0] := rfl
theorem t_X8_wakeAll_23 {G : Nat → zH → List zAV → List zAV → Option (zH × Int32)} (es : List zEnt) (σ : zH) (i0 : Nat) (x1 : Int32) (x2 : Int32)  (w25 : Int32) (w26 : Int32) : zev cc_X8_wakeAll G 0 krI (zE 23 (.aload_n 0) 1 :: zE 24 (.iload_n 2) 1 :: zEk 25 (.iconst 2) 1 w25 :: zEk 26 (.iconst (-1)) 1 w26 :: es) σ [vR 8 i0, vI x1, vI x2] [] = zev cc_X8_wakeAll G 0 krI es σ [vR 8 i0, vI x1, vI x2] [vI w26, vI w25, vI x2, vR 8 i0] := rfl
theorem t_X8_wakeAll_30 {G : Nat → zH → List zAV → List zAV → Option (zH × Int32)} (es : List zEnt) (σ : zH) (i0 : Nat) (x1 : Int32) (x2 : Int32)  (w30 : Int32) (w33 : Int32) : zev cc_X8_wakeAll G 0 krI (zEk 30 (.iinc 1 1) 3 w30 :: zEk 33 (.iinc 2 1) 3 w33 :: es) σ [vR 8 i0, vI x1, vI x2] [] = zev cc_X8_wakeAll G 0 krI es σ [vR 8 i0, vI (x1 + w30), vI (x2 + w33)] [] := rfl
theorem t_X8_wakeAll_33 {G : Nat → zH → List zAV → List zAV → Option (zH × Int32)} (es : List zEnt) (σ : zH) (i0 : Nat) (x1 : Int32) (x2 : Int32)  (w33 : Int32) : zev cc_X8_wakeAll G 0 krI (zEk 33 (.iinc 2 1) 3 w33 :: es) σ [vR 8 i0, vI x1, vI x2] [] = zev cc_X8_wakeAll G 0 krI es σ [vR 8 i0, vI x1, vI (x2 + w33)] [] := rfl
theorem t_X8_wakeAll_39 {G : Nat → zH → List zAV → List zAV → Option (zH × Int32)} (es : List zEnt) (σ : zH) (x1 : Int32) (y0 : zAV) (y2 : zAV)  : zev cc_X8_wakeAll G 0 krI (zE 39 (.iload_n 1) 1 :: es) σ [y0, vI x1, y2] [] = zev cc_X8_wakeAll G 0 krI es σ [y0, vI x1, y2] [vI x1] := rfl
noncomputable def k_X8_wakeAll_4  : Nat → zH → Nat → Int32 → Int32 → Option (zH × Int32)
  | 0, _, _, _, _ => none
  | n + 1, σ, i0, x1, x2 =>
    if x2 < (σ.1 0 (i0 + 1) 0) then
      (d_X8_isAsleep σ i0 x2).bind fun p1 =>
      if p1.2 = 0 then
        (k_X8_wakeAll_4 n) p1.1 i0 x1 (x2 + (1 : Int32))
      else
        (d_X8_getUp p1.1 i0 x2 (2 : Int32) (-1 : Int32)).bind fun σ2 =>
        (k_X8_wakeAll_4 n) σ2 i0 (x1 + (1 : Int32)) (x2 + (1 : Int32))
    else
      some (σ, x1)
theorem e_X8_wakeAll_4  (n : Nat) (σ : zH) (i0 : Nat) (x1 : Int32) (x2 : Int32)  : k_X8_wakeAll_4 (n + 1) σ i0 x1 x2 = zin cc_X8_wakeAll (fun t => if t = 4 then some (gl_X8_wakeAll_4 (k_X8_wakeAll_4 n)) else none) 0 krI b_X8_wakeAll 4 σ [vR 8 i0, vI x1, vI x2] [] := by
  rw [k_X8_wakeAll_4]
  refine Eq.symm ((zin_b (es := q_X8_wakeAll_4) rfl).trans ?_)
  refine (t_X8_wakeAll_4 _ _ _ _ _).trans ?_
  refine x_icmp.trans (pif_ge ?_ ?_)
  · refine (zrun_b (es := q_X8_wakeAll_39) rfl rfl).trans ?_
    refine (t_X8_wakeAll_39 _ _ _ _ _).trans ?_
    exact x_iret
  · refine (t_X8_wakeAll_15 _ _ _ _ _).trans ?_
    refine (x_callV rfl rfl rfl rfl).trans ((cl_X8_wakeAll_X8_isAsleep _ _ _).trans ((gr_X8_isAsleep _ _ _ _).trans (pbd fun _ => ?_)))
    refine x_if.trans (pif_eq ?_ ?_)
    · refine (zrun_b (es := q_X8_wakeAll_33) rfl rfl).trans ?_
      refine (t_X8_wakeAll_33 _ _ _ _ _ _).trans ?_
      refine x_goto.trans ?_
      exact (zrun_c rfl).trans (glr_X8_wakeAll_4 _ _ _ _ _)
    · refine (t_X8_wakeAll_23 _ _ _ _ _ _ _).trans ?_
      refine (x_callV rfl rfl rfl rfl).trans ((cl_X8_wakeAll_X8_getUp _ _ _).trans ((gr_X8_getUp _ _ _ _ _ _).trans (pbd fun _ => ?_)))
      refine (t_X8_wakeAll_30 _ _ _ _ _ _ _).trans ?_
      refine x_goto.trans ?_
      exact (zrun_c rfl).trans (glr_X8_wakeAll_4 _ _ _ _ _)
theorem s_X8_wakeAll_4 {X : zX} (hX : zHX X)   : ∀ n σ L st r, gl_X8_wakeAll_4 (k_X8_wakeAll_4 n) σ L st = some r → zGW X 81 krI 4 σ L st r := by
  intro n
  induction n with
  | zero =>
    intro σ L st r h
    unfold gl_X8_wakeAll_4 at h
    split at h <;> cases h
  | succ n ih =>
    intro σ L st r h
    unfold gl_X8_wakeAll_4 at h
    split at h
    · exact zin_ok (hy_X8_wakeAll hX) bk_X8_wakeAll (fun t f hf => by
      by_cases e4 : t = 4
      · rw [if_pos e4] at hf; subst e4; cases hf; exact ih
      rw [if_neg e4] at hf
      cases hf) ((e_X8_wakeAll_4 _ _ _ _ _).symm.trans h)
    · cases h
noncomputable def d_X8_wakeAll (σ : zH) (ia0 : Nat) : Option (zH × Int32) :=
  (k_X8_wakeAll_4 zN) σ ia0 (0 : Int32) (0 : Int32)
theorem e_X8_wakeAll (σ : zH) (ia0 : Nat) : d_X8_wakeAll σ ia0 = zin cc_X8_wakeAll (fun t => if t = 4 then some (gl_X8_wakeAll_4 (k_X8_wakeAll_4 zN)) else none) 0 krI b_X8_wakeAll 0 σ [vR 8 ia0, vU, vU] [] := by
  unfold d_X8_wakeAll
  refine Eq.symm ((zin_b (es := q_X8_wakeAll_0) rfl).trans ?_)
  refine (t_X8_wakeAll_0 _ _ _ _ _ _ _).trans ?_
  refine x_cut.trans ?_
  exact (zrun_c rfl).trans (glr_X8_wakeAll_4 _ _ _ _ _)
noncomputable def g_X8_wakeAll {ρ : Type} (σ : zH) (av : List zAV) (q : zH → zAV → Option ρ) : Option ρ := match av with
  | [.inr (.inr (.inl (8, ia0)))] => (d_X8_wakeAll σ ia0).bind fun p => q p.1 (vI p.2)
  | _ => none
theorem gr_X8_wakeAll {ρ : Type} (σ : zH) (ia0 : Nat) (q : zH → zAV → Option ρ) : g_X8_wakeAll σ [vR 8 ia0] q = (d_X8_wakeAll σ ia0).bind fun p => q p.1 (vI p.2) := rfl
theorem c_X8_wakeAll {ρ : Type} {X : zX} (hX : zHX X) {σ : zH} {av : List zAV} {q : zH → zAV → Option ρ} {r : ρ} (h : g_X8_wakeAll σ av q = some r) (hv : ∀ a ∈ av, zval X a) : zcon X 81 σ av q r := by
  unfold g_X8_wakeAll at h
  split at h
  · exact zcon_I (n := 81) (ml := 3) (rc := 0) (st := 0) (kd := 8) (np := 0) (by decide +kernel) (by decide) ⟨_, _, rfl, rfl⟩ (Nat.le_of_ble_eq_true rfl) hv h (fun y h1 => (zin_ok (hy_X8_wakeAll hX) bk_X8_wakeAll (fun t f hf => by
      by_cases e4 : t = 4
      · rw [if_pos e4] at hf; subst e4; cases hf; exact ((fun σ L st r h => s_X8_wakeAll_4 hX  zN σ L st r h))
      rw [if_neg e4] at hf
      cases hf) ((e_X8_wakeAll _ _).symm.trans h1)))
  · cases h
/-! SleepWaves$Forecast.playStruck(LSleepWaves$Law;II)V -/
def q_X2_playStruck_32 : List zEnt := zE 32 .return_ 1 :: []
def q_X2_playStruck_29 : List zEnt := zEc 29 (.invokevirtual 41) 3 82 3 92 1 :: q_X2_playStruck_32
def q_X2_playStruck_20 : List zEnt := zE 20 .pop 1 :: zE 21 (.aload_n 0) 1 :: zEf 22 (.getfield 12) 3 2 1 128 (2, 8, 5) :: zE 25 (.aload_n 1) 1 :: zE 26 (.iload_n 3) 1 :: zE 27 (.iload_n 2) 1 :: zE 28 .isub 1 :: q_X2_playStruck_29
def q_X2_playStruck_17 : List zEnt := zEc 17 (.invokevirtual 45) 3 81 1 96 0 :: q_X2_playStruck_20
def q_X2_playStruck_13 : List zEnt := zE 13 (.aload_n 0) 1 :: zEf 14 (.getfield 12) 3 2 1 128 (2, 8, 5) :: q_X2_playStruck_17
def q_X2_playStruck_10 : List zEnt := zEc 10 (.invokevirtual 41) 3 82 3 92 1 :: q_X2_playStruck_13
def q_X2_playStruck_4 : List zEnt := zE 4 (.aload_n 0) 1 :: zEf 5 (.getfield 12) 3 2 1 128 (2, 8, 5) :: zE 8 (.aload_n 1) 1 :: zE 9 (.iload_n 2) 1 :: q_X2_playStruck_10
def q_X2_playStruck_1 : List zEnt := zEc 1 (.invokevirtual 38) 3 15 1 89 1 :: q_X2_playStruck_4
def q_X2_playStruck_0 : List zEnt := zE 0 (.aload_n 0) 1 :: q_X2_playStruck_1
def b_X2_playStruck : List (Nat × List zEnt) := [(0, q_X2_playStruck_0)]
theorem bk_X2_playStruck : zchB 18 b_X2_playStruck = true := by decide +kernel
noncomputable def cc_X2_playStruck {ρ : Type} : Nat → zH → List zAV → (zH → zAV → Option ρ) → Option ρ := fun n σ av q => if n = 15 then g_X2_restart σ av q else if n = 82 then g_X8_passQuarters σ av q else if n = 81 then g_X8_wakeAll σ av q else none
theorem cs_X2_playStruck {ρ : Type} {X : zX} (hX : zHX X) : zCS X (cc_X2_playStruck (ρ := ρ)) := by
  intro n σ av q r h hv
  unfold cc_X2_playStruck at h
  by_cases e_X2_restart : n = 15
  · rw [if_pos e_X2_restart] at h
    subst e_X2_restart
    exact c_X2_restart hX h hv
  rw [if_neg e_X2_restart] at h
  by_cases e_X8_passQuarters : n = 82
  · rw [if_pos e_X8_passQuarters] at h
    subst e_X8_passQuarters
    exact c_X8_passQuarters hX h hv
  rw [if_neg e_X8_passQuarters] at h
  by_cases e_X8_wakeAll : n = 81
  · rw [if_pos e_X8_wakeAll] at h
    subst e_X8_wakeAll
    exact c_X8_wakeAll hX h hv
  rw [if_neg e_X8_wakeAll] at h
  cases h
theorem cl_X2_playStruck_X2_restart {ρ : Type} (σ : zH) (av : List zAV) (q : zH → zAV → Option ρ) : cc_X2_playStruck 15 σ av q = g_X2_restart σ av q := rfl
theorem cl_X2_playStruck_X8_passQuarters {ρ : Type} (σ : zH) (av : List zAV) (q : zH → zAV → Option ρ) : cc_X2_playStruck 82 σ av q = g_X8_passQuarters σ av q := rfl
theorem cl_X2_playStruck_X8_wakeAll {ρ : Type} (σ : zH) (av : List zAV) (q : zH → zAV → Option ρ) : cc_X2_playStruck 81 σ av q = g_X8_wakeAll σ av q := rfl
theorem hy_X2_playStruck {ρ : Type} {X : zX} (hX : zHX X) : zHY X 18 (cc_X2_playStruck (ρ := ρ)) := zHX.hY hX (cs_X2_playStruck hX) (zmok_all 18 (by decide))
theorem t_X2_playStruck_0 {G : Nat → zH → List zAV → List zAV → Option zH} (es : List zEnt) (σ : zH) (i1 : Nat) (x2 : Int32) (x3 : Int32)   : zev cc_X2_playStruck G 9 krV (zE 0 (.aload_n 0) 1 :: es) σ [vR 2 0, vR 4 i1, vI x2, vI x3] [] = zev cc_X2_playStruck G 9 krV es σ [vR 2 0, vR 4 i1, vI x2, vI x3] [vR 2 0] := rfl
theorem t_X2_playStruck_4 {G : Nat → zH → List zAV → List zAV → Option zH} (es : List zEnt) (σ : zH) (i1 : Nat) (x2 : Int32) (x3 : Int32)   : zev cc_X2_playStruck G 9 krV (zE 4 (.aload_n 0) 1 :: zEf 5 (.getfield 12) 3 2 1 128 (2, 8, 5) :: zE 8 (.aload_n 1) 1 :: zE 9 (.iload_n 2) 1 :: es) σ [vR 2 0, vR 4 i1, vI x2, vI x3] [] = zev cc_X2_playStruck G 9 krV es σ [vR 2 0, vR 4 i1, vI x2, vI x3] [vI x2, vR 4 i1, vR 8 5] := rfl
theorem t_X2_playStruck_13 {G : Nat → zH → List zAV → List zAV → Option zH} (es : List zEnt) (σ : zH) (i1 : Nat) (x2 : Int32) (x3 : Int32)   : zev cc_X2_playStruck G 9 krV (zE 13 (.aload_n 0) 1 :: zEf 14 (.getfield 12) 3 2 1 128 (2, 8, 5) :: es) σ [vR 2 0, vR 4 i1, vI x2, vI x3] [] = zev cc_X2_playStruck G 9 krV es σ [vR 2 0, vR 4 i1, vI x2, vI x3] [vR 8 5] := rfl
theorem t_X2_playStruck_20 {G : Nat → zH → List zAV → List zAV → Option zH} (es : List zEnt) (σ : zH) (i1 : Nat) (x2 : Int32) (x3 : Int32) (xs0 : Int32)   : zev cc_X2_playStruck G 9 krV (zE 20 .pop 1 :: zE 21 (.aload_n 0) 1 :: zEf 22 (.getfield 12) 3 2 1 128 (2, 8, 5) :: zE 25 (.aload_n 1) 1 :: zE 26 (.iload_n 3) 1 :: zE 27 (.iload_n 2) 1 :: zE 28 .isub 1 :: es) σ [vR 2 0, vR 4 i1, vI x2, vI x3] [vI xs0] = zev cc_X2_playStruck G 9 krV es σ [vR 2 0, vR 4 i1, vI x2, vI x3] [vI (x3 - x2), vR 4 i1, vR 8 5] := rfl
noncomputable def d_X2_playStruck (σ : zH) (ia1 : Nat) (xa2 : Int32) (xa3 : Int32) : Option zH :=
  (d_X2_restart σ).bind fun σ1 =>
  (d_X8_passQuarters σ1 5 ia1 xa2).bind fun σ2 =>
  (d_X8_wakeAll σ2 5).bind fun p3 =>
  (d_X8_passQuarters p3.1 5 ia1 (xa3 - xa2)).bind fun σ4 =>
  some σ4
theorem e_X2_playStruck (σ : zH) (ia1 : Nat) (xa2 : Int32) (xa3 : Int32) : d_X2_playStruck σ ia1 xa2 xa3 = zin cc_X2_playStruck (fun t => none) 9 krV b_X2_playStruck 0 σ [vR 2 0, vR 4 ia1, vI xa2, vI xa3] [] := by
  unfold d_X2_playStruck
  refine Eq.symm ((zin_b (es := q_X2_playStruck_0) rfl).trans ?_)
  refine (t_X2_playStruck_0 _ _ _ _ _).trans ?_
  refine (x_callV rfl rfl rfl rfl).trans ((cl_X2_playStruck_X2_restart _ _ _).trans ((gr_X2_restart _ _).trans (pbd fun _ => ?_)))
  refine (t_X2_playStruck_4 _ _ _ _ _).trans ?_
  refine (x_callV rfl rfl rfl rfl).trans ((cl_X2_playStruck_X8_passQuarters _ _ _).trans ((gr_X8_passQuarters _ _ _ _ _).trans (pbd fun _ => ?_)))
  refine (t_X2_playStruck_13 _ _ _ _ _).trans ?_
  refine (x_callV rfl rfl rfl rfl).trans ((cl_X2_playStruck_X8_wakeAll _ _ _).trans ((gr_X8_wakeAll _ _ _).trans (pbd fun _ => ?_)))
  refine (t_X2_playStruck_20 _ _ _ _ _ _).trans ?_
  refine (x_callV rfl rfl rfl rfl).trans ((cl_X2_playStruck_X8_passQuarters _ _ _).trans ((gr_X8_passQuarters _ _ _ _ _).trans (pbd fun _ => ?_)))
  exact x_vret
noncomputable def g_X2_playStruck {ρ : Type} (σ : zH) (av : List zAV) (q : zH → zAV → Option ρ) : Option ρ := match av with
  | [.inr (.inr (.inl (2, 0))), .inr (.inr (.inl (4, ia1))), .inl xa2, .inl xa3] => (d_X2_playStruck σ ia1 xa2 xa3).bind fun σ => q σ vU
  | _ => none
theorem gr_X2_playStruck {ρ : Type} (σ : zH) (ia1 : Nat) (xa2 : Int32) (xa3 : Int32) (q : zH → zAV → Option ρ) : g_X2_playStruck σ [vR 2 0, vR 4 ia1, vI xa2, vI xa3] q = (d_X2_playStruck σ ia1 xa2 xa3).bind fun σ => q σ vU := rfl
theorem c_X2_playStruck {ρ : Type} {X : zX} (hX : zHX X) {σ : zH} {av : List zAV} {q : zH → zAV → Option ρ} {r : ρ} (h : g_X2_playStruck σ av q = some r) (hv : ∀ a ∈ av, zval X a) : zcon X 18 σ av q r := by
  unfold g_X2_playStruck at h
  split at h
  · exact zcon_V (n := 18) (ml := 4) (rc := 9) (st := 0) (kd := 2) (np := 3) (by decide +kernel) rfl ⟨_, _, rfl, rfl⟩ (Nat.le_of_ble_eq_true rfl) hv h (fun y h1 => (zin_ok (hy_X2_playStruck hX) bk_X2_playStruck (fun t f hf => by
      cases hf) ((e_X2_playStruck _ _ _ _).symm.trans h1)))
  · cases h
/-! SleepWaves$State.tiredTogether()I -/
def q_X8_tiredTogether_0 : List zEnt := zEk 0 (.iconst 0) 1 0 :: zE 1 (.istore_n 1) 1 :: zEk 2 (.iconst 0) 1 0 :: zE 3 (.istore_n 2) 1 :: [zE 4 .nop 0]
def q_X8_tiredTogether_27 : List zEnt := zEa 27 (.goto (-23)) 3 4 :: []
def q_X8_tiredTogether_22 : List zEnt := zE 22 .iadd 1 :: zE 23 (.istore_n 1) 1 :: zEk 24 (.iinc 2 1) 3 1 :: q_X8_tiredTogether_27
def q_X8_tiredTogether_21 : List zEnt := zE 21 .iaload 1 :: q_X8_tiredTogether_22
def q_X8_tiredTogether_15 : List zEnt := zE 15 (.iload_n 1) 1 :: zE 16 (.aload_n 0) 1 :: zEf 17 (.getfield 18) 3 8 6 100 (1, 31, 0) :: zE 20 (.iload_n 2) 1 :: q_X8_tiredTogether_21
def q_X8_tiredTogether_12 : List zEnt := zEa 12 (.if_icmp .ge 18) 3 30 :: q_X8_tiredTogether_15
def q_X8_tiredTogether_4 : List zEnt := zE 4 (.iload_n 2) 1 :: zE 5 (.aload_n 0) 1 :: zEf 6 (.getfield 12) 3 8 0 84 (1, 0, 1) :: zEf 9 (.getfield 74) 3 0 0 31 (0, 0, 0) :: q_X8_tiredTogether_12
def q_X8_tiredTogether_31 : List zEnt := zE 31 .ireturn 1 :: []
def q_X8_tiredTogether_30 : List zEnt := zE 30 (.iload_n 1) 1 :: q_X8_tiredTogether_31
def b_X8_tiredTogether : List (Nat × List zEnt) := [(0, q_X8_tiredTogether_0), (4, q_X8_tiredTogether_4), (30, q_X8_tiredTogether_30)]
theorem bk_X8_tiredTogether : zchB 75 b_X8_tiredTogether = true := by decide +kernel
theorem hy_X8_tiredTogether {ρ : Type} {X : zX} (hX : zHX X) : zHY X 75 (zc0 (ρ := ρ)) := zHX.hY hX (zc0_ok X) (zmok_all 75 (by decide))
def gl_X8_tiredTogether_4 {ρ : Type} (f : zH → Nat → Int32 → Int32 → Option ρ) (σ : zH) (L st : List zAV) : Option ρ := match L, st with
  | [.inr (.inr (.inl (8, i0))), .inl x1, .inl x2], [] => f σ i0 x1 x2
  | _, _ => none
theorem glr_X8_tiredTogether_4 {ρ : Type} (f : zH → Nat → Int32 → Int32 → Option ρ) (σ : zH) (i0 : Nat) (x1 : Int32) (x2 : Int32)  : gl_X8_tiredTogether_4 f σ [vR 8 i0, vI x1, vI x2] [] = f σ i0 x1 x2 := rfl
theorem t_X8_tiredTogether_0 {G : Nat → zH → List zAV → List zAV → Option (zH × Int32)} (es : List zEnt) (σ : zH) (i0 : Nat) (y1 : zAV) (y2 : zAV) (w0 : Int32) (w2 : Int32) : zev zc0 G 0 krI (zEk 0 (.iconst 0) 1 w0 :: zE 1 (.istore_n 1) 1 :: zEk 2 (.iconst 0) 1 w2 :: zE 3 (.istore_n 2) 1 :: es) σ [vR 8 i0, y1, y2] [] = zev zc0 G 0 krI es σ [vR 8 i0, vI w0, vI w2] [] := rfl
theorem t_X8_tiredTogether_4 {G : Nat → zH → List zAV → List zAV → Option (zH × Int32)} (es : List zEnt) (σ : zH) (i0 : Nat) (x1 : Int32) (x2 : Int32)   : zev zc0 G 0 krI (zE 4 (.iload_n 2) 1 :: zE 5 (.aload_n 0) 1 :: zEf 6 (.getfield 12) 3 8 0 84 (1, 0, 1) :: zEf 9 (.getfield 74) 3 0 0 31 (0, 0, 0) :: es) σ [vR 8 i0, vI x1, vI x2] [] = zev zc0 G 0 krI es σ [vR 8 i0, vI x1, vI x2] [vI (σ.1 0 (i0 + 1) 0), vI x2] := rfl
theorem t_X8_tiredTogether_15 {G : Nat → zH → List zAV → List zAV → Option (zH × Int32)} (es : List zEnt) (σ : zH) (i0 : Nat) (x1 : Int32) (x2 : Int32)   : zev zc0 G 0 krI (zE 15 (.iload_n 1) 1 :: zE 16 (.aload_n 0) 1 :: zEf 17 (.getfield 18) 3 8 6 100 (1, 31, 0) :: zE 20 (.iload_n 2) 1 :: es) σ [vR 8 i0, vI x1, vI x2] [] = zev zc0 G 0 krI es σ [vR 8 i0, vI x1, vI x2] [vI x2, vR 31 (i0 + 0), vI x1] := rfl
theorem t_X8_tiredTogether_22 {G : Nat → zH → List zAV → List zAV → Option (zH × Int32)} (es : List zEnt) (σ : zH) (i0 : Nat) (x2 : Int32) (xs0 : Int32) (xs1 : Int32) (y1 : zAV) (w24 : Int32) : zev zc0 G 0 krI (zE 22 .iadd 1 :: zE 23 (.istore_n 1) 1 :: zEk 24 (.iinc 2 1) 3 w24 :: es) σ [vR 8 i0, y1, vI x2] [vI xs1, vI xs0] = zev zc0 G 0 krI es σ [vR 8 i0, vI (xs0 + xs1), vI (x2 + w24)] [] := rfl
theorem t_X8_tiredTogether_30 {G : Nat → zH → List zAV → List zAV → Option (zH × Int32)} (es : List zEnt) (σ : zH) (x1 : Int32) (y0 : zAV) (y2 : zAV)  : zev zc0 G 0 krI (zE 30 (.iload_n 1) 1 :: es) σ [y0, vI x1, y2] [] = zev zc0 G 0 krI es σ [y0, vI x1, y2] [vI x1] := rfl
noncomputable def k_X8_tiredTogether_4  : Nat → zH → Nat → Int32 → Int32 → Option (zH × Int32)
  | 0, _, _, _, _ => none
  | n + 1, σ, i0, x1, x2 =>
    if x2 < (σ.1 0 (i0 + 1) 0) then
      ix x2 12 fun j1 =>
      (k_X8_tiredTogether_4 n) σ i0 (x1 + (σ.1 31 (i0 + 0) j1)) (x2 + (1 : Int32))
    else
      some (σ, x1)
theorem e_X8_tiredTogether_4  (n : Nat) (σ : zH) (i0 : Nat) (x1 : Int32) (x2 : Int32)  : k_X8_tiredTogether_4 (n + 1) σ i0 x1 x2 = zin zc0 (fun t => if t = 4 then some (gl_X8_tiredTogether_4 (k_X8_tiredTogether_4 n)) else none) 0 krI b_X8_tiredTogether 4 σ [vR 8 i0, vI x1, vI x2] [] := by
  rw [k_X8_tiredTogether_4]
  refine Eq.symm ((zin_b (es := q_X8_tiredTogether_4) rfl).trans ?_)
  refine (t_X8_tiredTogether_4 _ _ _ _ _).trans ?_
  refine x_icmp.trans (pif_ge ?_ ?_)
  · refine (zrun_b (es := q_X8_tiredTogether_30) rfl rfl).trans ?_
    refine (t_X8_tiredTogether_30 _ _ _ _ _).trans ?_
    exact x_iret
  · refine (t_X8_tiredTogether_15 _ _ _ _ _).trans ?_
    refine (x_iald (N := 12) rfl rfl).trans (pix fun _ => ?_)
    refine (t_X8_tiredTogether_22 _ _ _ _ _ _ _ _).trans ?_
    refine x_goto.trans ?_
    exact (zrun_c rfl).trans (glr_X8_tiredTogether_4 _ _ _ _ _)
theorem s_X8_tiredTogether_4 {X : zX} (hX : zHX X)   : ∀ n σ L st r, gl_X8_tiredTogether_4 (k_X8_tiredTogether_4 n) σ L st = some r → zGW X 75 krI 4 σ L st r := by
  intro n
  induction n with
  | zero =>
    intro σ L st r h
    unfold gl_X8_tiredTogether_4 at h
    split at h <;> cases h
  | succ n ih =>
    intro σ L st r h
    unfold gl_X8_tiredTogether_4 at h
    split at h
    · exact zin_ok (hy_X8_tiredTogether hX) bk_X8_tiredTogether (fun t f hf => by
      by_cases e4 : t = 4
      · rw [if_pos e4] at hf; subst e4; cases hf; exact ih
      rw [if_neg e4] at hf
      cases hf) ((e_X8_tiredTogether_4 _ _ _ _ _).symm.trans h)
    · cases h
noncomputable def d_X8_tiredTogether (σ : zH) (ia0 : Nat) : Option (zH × Int32) :=
  (k_X8_tiredTogether_4 zN) σ ia0 (0 : Int32) (0 : Int32)
theorem e_X8_tiredTogether (σ : zH) (ia0 : Nat) : d_X8_tiredTogether σ ia0 = zin zc0 (fun t => if t = 4 then some (gl_X8_tiredTogether_4 (k_X8_tiredTogether_4 zN)) else none) 0 krI b_X8_tiredTogether 0 σ [vR 8 ia0, vU, vU] [] := by
  unfold d_X8_tiredTogether
  refine Eq.symm ((zin_b (es := q_X8_tiredTogether_0) rfl).trans ?_)
  refine (t_X8_tiredTogether_0 _ _ _ _ _ _ _).trans ?_
  refine x_cut.trans ?_
  exact (zrun_c rfl).trans (glr_X8_tiredTogether_4 _ _ _ _ _)
noncomputable def g_X8_tiredTogether {ρ : Type} (σ : zH) (av : List zAV) (q : zH → zAV → Option ρ) : Option ρ := match av with
  | [.inr (.inr (.inl (8, ia0)))] => (d_X8_tiredTogether σ ia0).bind fun p => q p.1 (vI p.2)
  | _ => none
theorem gr_X8_tiredTogether {ρ : Type} (σ : zH) (ia0 : Nat) (q : zH → zAV → Option ρ) : g_X8_tiredTogether σ [vR 8 ia0] q = (d_X8_tiredTogether σ ia0).bind fun p => q p.1 (vI p.2) := rfl
theorem c_X8_tiredTogether {ρ : Type} {X : zX} (hX : zHX X) {σ : zH} {av : List zAV} {q : zH → zAV → Option ρ} {r : ρ} (h : g_X8_tiredTogether σ av q = some r) (hv : ∀ a ∈ av, zval X a) : zcon X 75 σ av q r := by
  unfold g_X8_tiredTogether at h
  split at h
  · exact zcon_I (n := 75) (ml := 3) (rc := 0) (st := 0) (kd := 8) (np := 0) (by decide +kernel) (by decide) ⟨_, _, rfl, rfl⟩ (Nat.le_of_ble_eq_true rfl) hv h (fun y h1 => (zin_ok (hy_X8_tiredTogether hX) bk_X8_tiredTogether (fun t f hf => by
      by_cases e4 : t = 4
      · rw [if_pos e4] at hf; subst e4; cases hf; exact ((fun σ L st r h => s_X8_tiredTogether_4 hX  zN σ L st r h))
      rw [if_neg e4] at hf
      cases hf) ((e_X8_tiredTogether _ _).symm.trans h1)))
  · cases h
/-! SleepWaves$Forecast.outcome(I)I -/
def q_X2_outcome_1 : List zEnt := (1, (.tableswitch 88 0 3 #[31, 39, 47, 80]), 31, (89, 0, 0, 0), (0, 0, 0), 0, 0, [(0, 32), (1, 40), (2, 48), (3, 81)]) :: []
def q_X2_outcome_0 : List zEnt := zE 0 (.iload_n 1) 1 :: q_X2_outcome_1
def q_X2_outcome_39 : List zEnt := zE 39 .ireturn 1 :: []
def q_X2_outcome_32 : List zEnt := zE 32 (.aload_n 0) 1 :: zEf 33 (.getfield 12) 3 2 1 128 (2, 8, 5) :: zEf 36 (.getfield 49) 3 8 14 118 (0, 0, 0) :: q_X2_outcome_39
def q_X2_outcome_47 : List zEnt := zE 47 .ireturn 1 :: []
def q_X2_outcome_40 : List zEnt := zE 40 (.aload_n 0) 1 :: zEf 41 (.getfield 12) 3 2 1 128 (2, 8, 5) :: zEf 44 (.getfield 53) 3 8 12 112 (0, 0, 0) :: q_X2_outcome_47
def q_X2_outcome_62 : List zEnt := zEa 62 (.goto 18) 3 80 :: []
def q_X2_outcome_60 : List zEnt := zEk 60 (.bipush (-2)) 2 (-2) :: q_X2_outcome_62
def q_X2_outcome_57 : List zEnt := zEa 57 (.if_icmp .ne 8) 3 65 :: q_X2_outcome_60
def q_X2_outcome_48 : List zEnt := zE 48 (.aload_n 0) 1 :: zEf 49 (.getfield 12) 3 2 1 128 (2, 8, 5) :: zEf 52 (.getfield 56) 3 8 13 115 (0, 0, 0) :: zEk 55 (.bipush (-2)) 2 (-2) :: q_X2_outcome_57
def q_X2_outcome_80 : List zEnt := zE 80 .ireturn 1 :: []
def q_X2_outcome_65 : List zEnt := zE 65 (.aload_n 0) 1 :: zEf 66 (.getfield 12) 3 2 1 128 (2, 8, 5) :: zEf 69 (.getfield 56) 3 8 13 115 (0, 0, 0) :: zE 72 (.aload_n 0) 1 :: zEf 73 (.getfield 28) 3 2 0 127 (2, 8, 0) :: zEf 76 (.getfield 59) 3 8 1 90 (0, 0, 0) :: zE 79 .isub 1 :: q_X2_outcome_80
def q_X2_outcome_88 : List zEnt := zE 88 .ireturn 1 :: []
def q_X2_outcome_85 : List zEnt := zEc 85 (.invokevirtual 62) 3 75 1 94 0 :: q_X2_outcome_88
def q_X2_outcome_81 : List zEnt := zE 81 (.aload_n 0) 1 :: zEf 82 (.getfield 12) 3 2 1 128 (2, 8, 5) :: q_X2_outcome_85
def q_X2_outcome_96 : List zEnt := zE 96 .ireturn 1 :: []
def q_X2_outcome_89 : List zEnt := zE 89 (.aload_n 0) 1 :: zEf 90 (.getfield 12) 3 2 1 128 (2, 8, 5) :: zEf 93 (.getfield 65) 3 8 15 120 (0, 0, 0) :: q_X2_outcome_96
def b_X2_outcome : List (Nat × List zEnt) := [(0, q_X2_outcome_0), (32, q_X2_outcome_32), (40, q_X2_outcome_40), (48, q_X2_outcome_48), (65, q_X2_outcome_65), (80, q_X2_outcome_80), (81, q_X2_outcome_81), (89, q_X2_outcome_89)]
theorem bk_X2_outcome : zchB 19 b_X2_outcome = true := by decide +kernel
noncomputable def cc_X2_outcome {ρ : Type} : Nat → zH → List zAV → (zH → zAV → Option ρ) → Option ρ := fun n σ av q => if n = 75 then g_X8_tiredTogether σ av q else none
theorem cs_X2_outcome {ρ : Type} {X : zX} (hX : zHX X) : zCS X (cc_X2_outcome (ρ := ρ)) := by
  intro n σ av q r h hv
  unfold cc_X2_outcome at h
  by_cases e_X8_tiredTogether : n = 75
  · rw [if_pos e_X8_tiredTogether] at h
    subst e_X8_tiredTogether
    exact c_X8_tiredTogether hX h hv
  rw [if_neg e_X8_tiredTogether] at h
  cases h
theorem cl_X2_outcome_X8_tiredTogether {ρ : Type} (σ : zH) (av : List zAV) (q : zH → zAV → Option ρ) : cc_X2_outcome 75 σ av q = g_X8_tiredTogether σ av q := rfl
theorem hy_X2_outcome {ρ : Type} {X : zX} (hX : zHX X) : zHY X 19 (cc_X2_outcome (ρ := ρ)) := zHX.hY hX (cs_X2_outcome hX) (zmok_all 19 (by decide))
theorem t_X2_outcome_0 {G : Nat → zH → List zAV → List zAV → Option (zH × Int32)} (es : List zEnt) (σ : zH) (x1 : Int32)   : zev cc_X2_outcome G 0 krI (zE 0 (.iload_n 1) 1 :: es) σ [vR 2 0, vI x1] [] = zev cc_X2_outcome G 0 krI es σ [vR 2 0, vI x1] [vI x1] := rfl
theorem t_X2_outcome_32 {G : Nat → zH → List zAV → List zAV → Option (zH × Int32)} (es : List zEnt) (σ : zH)  (y1 : zAV)  : zev cc_X2_outcome G 0 krI (zE 32 (.aload_n 0) 1 :: zEf 33 (.getfield 12) 3 2 1 128 (2, 8, 5) :: zEf 36 (.getfield 49) 3 8 14 118 (0, 0, 0) :: es) σ [vR 2 0, y1] [] = zev cc_X2_outcome G 0 krI es σ [vR 2 0, y1] [vI (σ.1 8 5 14)] := rfl
theorem t_X2_outcome_40 {G : Nat → zH → List zAV → List zAV → Option (zH × Int32)} (es : List zEnt) (σ : zH)  (y1 : zAV)  : zev cc_X2_outcome G 0 krI (zE 40 (.aload_n 0) 1 :: zEf 41 (.getfield 12) 3 2 1 128 (2, 8, 5) :: zEf 44 (.getfield 53) 3 8 12 112 (0, 0, 0) :: es) σ [vR 2 0, y1] [] = zev cc_X2_outcome G 0 krI es σ [vR 2 0, y1] [vI (σ.1 8 5 12)] := rfl
theorem t_X2_outcome_48 {G : Nat → zH → List zAV → List zAV → Option (zH × Int32)} (es : List zEnt) (σ : zH)  (y1 : zAV) (w55 : Int32) : zev cc_X2_outcome G 0 krI (zE 48 (.aload_n 0) 1 :: zEf 49 (.getfield 12) 3 2 1 128 (2, 8, 5) :: zEf 52 (.getfield 56) 3 8 13 115 (0, 0, 0) :: zEk 55 (.bipush (-2)) 2 w55 :: es) σ [vR 2 0, y1] [] = zev cc_X2_outcome G 0 krI es σ [vR 2 0, y1] [vI w55, vI (σ.1 8 5 13)] := rfl
theorem t_X2_outcome_60 {G : Nat → zH → List zAV → List zAV → Option (zH × Int32)} (es : List zEnt) (σ : zH)  (y0 : zAV) (y1 : zAV) (w60 : Int32) : zev cc_X2_outcome G 0 krI (zEk 60 (.bipush (-2)) 2 w60 :: es) σ [y0, y1] [] = zev cc_X2_outcome G 0 krI es σ [y0, y1] [vI w60] := rfl
theorem t_X2_outcome_65 {G : Nat → zH → List zAV → List zAV → Option (zH × Int32)} (es : List zEnt) (σ : zH)  (y1 : zAV)  : zev cc_X2_outcome G 0 krI (zE 65 (.aload_n 0) 1 :: zEf 66 (.getfield 12) 3 2 1 128 (2, 8, 5) :: zEf 69 (.getfield 56) 3 8 13 115 (0, 0, 0) :: zE 72 (.aload_n 0) 1 :: zEf 73 (.getfield 28) 3 2 0 127 (2, 8, 0) :: zEf 76 (.getfield 59) 3 8 1 90 (0, 0, 0) :: zE 79 .isub 1 :: es) σ [vR 2 0, y1] [] = zev cc_X2_outcome G 0 krI es σ [vR 2 0, y1] [vI ((σ.1 8 5 13) - (σ.1 8 0 1))] := rfl
theorem t_X2_outcome_81 {G : Nat → zH → List zAV → List zAV → Option (zH × Int32)} (es : List zEnt) (σ : zH)  (y1 : zAV)  : zev cc_X2_outcome G 0 krI (zE 81 (.aload_n 0) 1 :: zEf 82 (.getfield 12) 3 2 1 128 (2, 8, 5) :: es) σ [vR 2 0, y1] [] = zev cc_X2_outcome G 0 krI es σ [vR 2 0, y1] [vR 8 5] := rfl
theorem t_X2_outcome_89 {G : Nat → zH → List zAV → List zAV → Option (zH × Int32)} (es : List zEnt) (σ : zH)  (y1 : zAV)  : zev cc_X2_outcome G 0 krI (zE 89 (.aload_n 0) 1 :: zEf 90 (.getfield 12) 3 2 1 128 (2, 8, 5) :: zEf 93 (.getfield 65) 3 8 15 120 (0, 0, 0) :: es) σ [vR 2 0, y1] [] = zev cc_X2_outcome G 0 krI es σ [vR 2 0, y1] [vI (σ.1 8 5 15)] := rfl
noncomputable def d_X2_outcome (σ : zH) (xa1 : Int32) : Option (zH × Int32) :=
  if xa1 = (0 : Int32) then
    some (σ, (σ.1 8 5 14))
  else if xa1 = (1 : Int32) then
    some (σ, (σ.1 8 5 12))
  else if xa1 = (2 : Int32) then
    if (σ.1 8 5 13) = (-2 : Int32) then
      some (σ, (-2 : Int32))
    else
      some (σ, ((σ.1 8 5 13) - (σ.1 8 0 1)))
  else if xa1 = (3 : Int32) then
    (d_X8_tiredTogether σ 5).bind fun p1 =>
    some (p1.1, p1.2)
  else 
    some (σ, (σ.1 8 5 15))
theorem e_X2_outcome (σ : zH) (xa1 : Int32) : d_X2_outcome σ xa1 = zin cc_X2_outcome (fun t => none) 0 krI b_X2_outcome 0 σ [vR 2 0, vI xa1] [] := by
  unfold d_X2_outcome
  refine Eq.symm ((zin_b (es := q_X2_outcome_0) rfl).trans ?_)
  refine (t_X2_outcome_0 _ _ _).trans ?_
  refine x_tsw.trans ?_
  refine zsw_c ?_ ?_
  · refine (zrun_b (es := q_X2_outcome_32) rfl rfl).trans ?_
    refine (t_X2_outcome_32 _ _ _).trans ?_
    exact x_iret
  refine zsw_c ?_ ?_
  · refine (zrun_b (es := q_X2_outcome_40) rfl rfl).trans ?_
    refine (t_X2_outcome_40 _ _ _).trans ?_
    exact x_iret
  refine zsw_c ?_ ?_
  · refine (zrun_b (es := q_X2_outcome_48) rfl rfl).trans ?_
    refine (t_X2_outcome_48 _ _ _ _).trans ?_
    refine x_icmp.trans (pif_ne ?_ ?_)
    · refine (zrun_b (es := q_X2_outcome_65) rfl rfl).trans ?_
      refine (t_X2_outcome_65 _ _ _).trans ?_
      exact x_iret
    · refine (t_X2_outcome_60 _ _ _ _ _).trans ?_
      refine x_goto.trans ?_
      refine (zrun_b (es := q_X2_outcome_80) rfl rfl).trans ?_
      exact x_iret
  refine zsw_c ?_ ?_
  · refine (zrun_b (es := q_X2_outcome_81) rfl rfl).trans ?_
    refine (t_X2_outcome_81 _ _ _).trans ?_
    refine (x_callV rfl rfl rfl rfl).trans ((cl_X2_outcome_X8_tiredTogether _ _ _).trans ((gr_X8_tiredTogether _ _ _).trans (pbd fun _ => ?_)))
    exact x_iret
  refine zsw_n ?_
  refine (zrun_b (es := q_X2_outcome_89) rfl rfl).trans ?_
  refine (t_X2_outcome_89 _ _ _).trans ?_
  exact x_iret
noncomputable def g_X2_outcome {ρ : Type} (σ : zH) (av : List zAV) (q : zH → zAV → Option ρ) : Option ρ := match av with
  | [.inr (.inr (.inl (2, 0))), .inl xa1] => (d_X2_outcome σ xa1).bind fun p => q p.1 (vI p.2)
  | _ => none
theorem gr_X2_outcome {ρ : Type} (σ : zH) (xa1 : Int32) (q : zH → zAV → Option ρ) : g_X2_outcome σ [vR 2 0, vI xa1] q = (d_X2_outcome σ xa1).bind fun p => q p.1 (vI p.2) := rfl
theorem c_X2_outcome {ρ : Type} {X : zX} (hX : zHX X) {σ : zH} {av : List zAV} {q : zH → zAV → Option ρ} {r : ρ} (h : g_X2_outcome σ av q = some r) (hv : ∀ a ∈ av, zval X a) : zcon X 19 σ av q r := by
  unfold g_X2_outcome at h
  split at h
  · exact zcon_I (n := 19) (ml := 2) (rc := 0) (st := 0) (kd := 2) (np := 1) (by decide +kernel) (by decide) ⟨_, _, rfl, rfl⟩ (Nat.le_of_ble_eq_true rfl) hv h (fun y h1 => (zin_ok (hy_X2_outcome hX) bk_X2_outcome (fun t f hf => by
      cases hf) ((e_X2_outcome _ _).symm.trans h1)))
  · cases h
/-! SleepWaves$Forecast.findTurn(LSleepWaves$Law;II)V -/
def q_X2_findTurn_32 : List zEnt := zEk 32 (.iconst 0) 1 0 :: zE 33 (.istore 5) 2 :: [zE 35 .nop 0]
def q_X2_findTurn_29 : List zEnt := zEc 29 (.invokevirtual 35) 3 71 1 91 1 :: q_X2_findTurn_32
def q_X2_findTurn_25 : List zEnt := zE 25 (.aload_n 0) 1 :: zEf 26 (.getfield 18) 3 2 2 129 (2, 8, 6) :: q_X2_findTurn_29
def q_X2_findTurn_22 : List zEnt := zEc 22 (.invokevirtual 31) 3 72 2 90 1 :: q_X2_findTurn_25
def q_X2_findTurn_10 : List zEnt := zEk 10 (.bipush 17) 2 17 :: zE 12 (.istore 4) 2 :: zE 14 (.aload_n 0) 1 :: zEf 15 (.getfield 18) 3 2 2 129 (2, 8, 6) :: zE 18 (.aload_n 0) 1 :: zEf 19 (.getfield 28) 3 2 0 127 (2, 8, 0) :: q_X2_findTurn_22
def q_X2_findTurn_7 : List zEnt := zEc 7 (.invokevirtual 68) 3 16 4 98 1 :: q_X2_findTurn_10
def q_X2_findTurn_0 : List zEnt := zE 0 (.aload_n 0) 1 :: zEk 1 (.bipush (-2)) 2 (-2) :: zEk 3 (.bipush (-2)) 2 (-2) :: zEk 5 (.bipush (-2)) 2 (-2) :: q_X2_findTurn_7
def q_X2_findTurn_42 : List zEnt := zEk 42 (.iconst 1) 1 1 :: zE 43 (.istore 6) 2 :: [zE 45 .nop 0]
def q_X2_findTurn_39 : List zEnt := zEa 39 (.if_icmp .ge 110) 3 149 :: q_X2_findTurn_42
def q_X2_findTurn_35 : List zEnt := zE 35 (.iload 5) 2 :: zEk 37 (.bipush 48) 2 48 :: q_X2_findTurn_39
def q_X2_findTurn_125 : List zEnt := zEa 125 (.goto (-80)) 3 45 :: []
def q_X2_findTurn_122 : List zEnt := zEk 122 (.iinc 6 1) 3 1 :: q_X2_findTurn_125
def q_X2_findTurn_119 : List zEnt := zEc 119 (.invokevirtual 68) 3 16 4 98 1 :: q_X2_findTurn_122
def q_X2_findTurn_103 : List zEnt := zE 103 (.iload 6) 2 :: zE 105 (.istore 4) 2 :: zE 107 (.aload_n 0) 1 :: zE 108 (.iload 5) 2 :: zE 110 (.iload 6) 2 :: zE 112 (.aload_n 0) 1 :: zEf 113 (.getfield 12) 3 2 1 128 (2, 8, 5) :: zEf 116 (.getfield 53) 3 8 12 112 (0, 0, 0) :: q_X2_findTurn_119
def q_X2_findTurn_100 : List zEnt := zEa 100 (.if_icmp .ne 22) 3 122 :: q_X2_findTurn_103
def q_X2_findTurn_92 : List zEnt := zE 92 (.aload_n 0) 1 :: zEf 93 (.getfield 12) 3 2 1 128 (2, 8, 5) :: zEf 96 (.getfield 75) 3 8 4 97 (0, 0, 0) :: zE 99 (.iload_n 2) 1 :: q_X2_findTurn_100
def q_X2_findTurn_89 : List zEnt := zEc 89 (.invokevirtual 41) 3 82 3 92 1 :: q_X2_findTurn_92
def q_X2_findTurn_80 : List zEnt := zE 80 (.aload_n 0) 1 :: zEf 81 (.getfield 12) 3 2 1 128 (2, 8, 5) :: zE 84 (.aload_n 1) 1 :: zE 85 (.iload_n 3) 1 :: zE 86 (.iload 5) 2 :: zE 88 .isub 1 :: q_X2_findTurn_89
def q_X2_findTurn_77 : List zEnt := zEf 77 (.putfield 72) 3 8 3 94 (0, 0, 0) :: q_X2_findTurn_80
def q_X2_findTurn_63 : List zEnt := zE 63 (.aload_n 0) 1 :: zEf 64 (.getfield 12) 3 2 1 128 (2, 8, 5) :: zE 67 (.aload_n 0) 1 :: zEf 68 (.getfield 12) 3 2 1 128 (2, 8, 5) :: zEf 71 (.getfield 59) 3 8 1 90 (0, 0, 0) :: zE 74 (.iload 6) 2 :: zE 76 .iadd 1 :: q_X2_findTurn_77
def q_X2_findTurn_60 : List zEnt := zEc 60 (.invokevirtual 31) 3 72 2 90 1 :: q_X2_findTurn_63
def q_X2_findTurn_52 : List zEnt := zE 52 (.aload_n 0) 1 :: zEf 53 (.getfield 12) 3 2 1 128 (2, 8, 5) :: zE 56 (.aload_n 0) 1 :: zEf 57 (.getfield 18) 3 2 2 129 (2, 8, 6) :: q_X2_findTurn_60
def q_X2_findTurn_49 : List zEnt := zEa 49 (.if_icmp .ge 79) 3 128 :: q_X2_findTurn_52
def q_X2_findTurn_45 : List zEnt := zE 45 (.iload 6) 2 :: zE 47 (.iload 4) 2 :: q_X2_findTurn_49
def q_X2_findTurn_146 : List zEnt := zEa 146 (.goto (-111)) 3 35 :: []
def q_X2_findTurn_143 : List zEnt := zEk 143 (.iinc 5 1) 3 1 :: q_X2_findTurn_146
def q_X2_findTurn_140 : List zEnt := zEc 140 (.invokevirtual 41) 3 82 3 92 1 :: q_X2_findTurn_143
def q_X2_findTurn_134 : List zEnt := zE 134 (.aload_n 0) 1 :: zEf 135 (.getfield 18) 3 2 2 129 (2, 8, 6) :: zE 138 (.aload_n 1) 1 :: zEk 139 (.iconst 1) 1 1 :: q_X2_findTurn_140
def q_X2_findTurn_131 : List zEnt := zEa 131 (.if_icmp .ge 12) 3 143 :: q_X2_findTurn_134
def q_X2_findTurn_128 : List zEnt := zE 128 (.iload 5) 2 :: zE 130 (.iload_n 3) 1 :: q_X2_findTurn_131
def q_X2_findTurn_149 : List zEnt := zE 149 .return_ 1 :: []
def b_X2_findTurn : List (Nat × List zEnt) := [(0, q_X2_findTurn_0), (35, q_X2_findTurn_35), (45, q_X2_findTurn_45), (122, q_X2_findTurn_122), (128, q_X2_findTurn_128), (143, q_X2_findTurn_143), (149, q_X2_findTurn_149)]
theorem bk_X2_findTurn : zchB 20 b_X2_findTurn = true := by decide +kernel
noncomputable def cc_X2_findTurn {ρ : Type} : Nat → zH → List zAV → (zH → zAV → Option ρ) → Option ρ := fun n σ av q => if n = 16 then g_X2_keep σ av q else if n = 72 then g_X8_copyFrom σ av q else if n = 71 then g_X8_beginCounts σ av q else if n = 82 then g_X8_passQuarters σ av q else none
theorem cs_X2_findTurn {ρ : Type} {X : zX} (hX : zHX X) : zCS X (cc_X2_findTurn (ρ := ρ)) := by
  intro n σ av q r h hv
  unfold cc_X2_findTurn at h
  by_cases e_X2_keep : n = 16
  · rw [if_pos e_X2_keep] at h
    subst e_X2_keep
    exact c_X2_keep hX h hv
  rw [if_neg e_X2_keep] at h
  by_cases e_X8_copyFrom : n = 72
  · rw [if_pos e_X8_copyFrom] at h
    subst e_X8_copyFrom
    exact c_X8_copyFrom hX h hv
  rw [if_neg e_X8_copyFrom] at h
  by_cases e_X8_beginCounts : n = 71
  · rw [if_pos e_X8_beginCounts] at h
    subst e_X8_beginCounts
    exact c_X8_beginCounts hX h hv
  rw [if_neg e_X8_beginCounts] at h
  by_cases e_X8_passQuarters : n = 82
  · rw [if_pos e_X8_passQuarters] at h
    subst e_X8_passQuarters
    exact c_X8_passQuarters hX h hv
  rw [if_neg e_X8_passQuarters] at h
  cases h
theorem cl_X2_findTurn_X2_keep {ρ : Type} (σ : zH) (av : List zAV) (q : zH → zAV → Option ρ) : cc_X2_findTurn 16 σ av q = g_X2_keep σ av q := rfl
theorem cl_X2_findTurn_X8_copyFrom {ρ : Type} (σ : zH) (av : List zAV) (q : zH → zAV → Option ρ) : cc_X2_findTurn 72 σ av q = g_X8_copyFrom σ av q := rfl
theorem cl_X2_findTurn_X8_beginCounts {ρ : Type} (σ : zH) (av : List zAV) (q : zH → zAV → Option ρ) : cc_X2_findTurn 71 σ av q = g_X8_beginCounts σ av q := rfl
theorem cl_X2_findTurn_X8_passQuarters {ρ : Type} (σ : zH) (av : List zAV) (q : zH → zAV → Option ρ) : cc_X2_findTurn 82 σ av q = g_X8_passQuarters σ av q := rfl
theorem hy_X2_findTurn {ρ : Type} {X : zX} (hX : zHX X) : zHY X 20 (cc_X2_findTurn (ρ := ρ)) := zHX.hY hX (cs_X2_findTurn hX) (zmok_all 20 (by decide))
def gl_X2_findTurn_35 {ρ : Type} (f : zH → Nat → Int32 → Int32 → Int32 → Int32 → Option ρ) (σ : zH) (L st : List zAV) : Option ρ := match L, st with
  | [.inr (.inr (.inl (2, 0))), .inr (.inr (.inl (4, i1))), .inl x2, .inl x3, .inl x4, .inl x5, _], [] => f σ i1 x2 x3 x4 x5
  | _, _ => none
def gl_X2_findTurn_45 {ρ : Type} (f : zH → Nat → Int32 → Int32 → Int32 → Int32 → Int32 → Option ρ) (σ : zH) (L st : List zAV) : Option ρ := match L, st with
  | [.inr (.inr (.inl (2, 0))), .inr (.inr (.inl (4, i1))), .inl x2, .inl x3, .inl x4, .inl x5, .inl x6], [] => f σ i1 x2 x3 x4 x5 x6
  | _, _ => none
def gl_X2_findTurn_128 {ρ : Type} (f : zH → Nat → Int32 → Int32 → Int32 → Int32 → Option ρ) (σ : zH) (L st : List zAV) : Option ρ := match L, st with
  | [.inr (.inr (.inl (2, 0))), .inr (.inr (.inl (4, i1))), .inl x2, .inl x3, .inl x4, .inl x5, _], [] => f σ i1 x2 x3 x4 x5
  | _, _ => none
theorem glr_X2_findTurn_35 {ρ : Type} (f : zH → Nat → Int32 → Int32 → Int32 → Int32 → Option ρ) (σ : zH) (i1 : Nat) (x2 : Int32) (x3 : Int32) (x4 : Int32) (x5 : Int32) (y6 : zAV) : gl_X2_findTurn_35 f σ [vR 2 0, vR 4 i1, vI x2, vI x3, vI x4, vI x5, y6] [] = f σ i1 x2 x3 x4 x5 := rfl
theorem glr_X2_findTurn_45 {ρ : Type} (f : zH → Nat → Int32 → Int32 → Int32 → Int32 → Int32 → Option ρ) (σ : zH) (i1 : Nat) (x2 : Int32) (x3 : Int32) (x4 : Int32) (x5 : Int32) (x6 : Int32)  : gl_X2_findTurn_45 f σ [vR 2 0, vR 4 i1, vI x2, vI x3, vI x4, vI x5, vI x6] [] = f σ i1 x2 x3 x4 x5 x6 := rfl
theorem glr_X2_findTurn_128 {ρ : Type} (f : zH → Nat → Int32 → Int32 → Int32 → Int32 → Option ρ) (σ : zH) (i1 : Nat) (x2 : Int32) (x3 : Int32) (x4 : Int32) (x5 : Int32) (y6 : zAV) : gl_X2_findTurn_128 f σ [vR 2 0, vR 4 i1, vI x2, vI x3, vI x4, vI x5, y6] [] = f σ i1 x2 x3 x4 x5 := rfl
theorem t_X2_findTurn_0 {G : Nat → zH → List zAV → List zAV → Option zH} (es : List zEnt) (σ : zH) (i1 : Nat) (x2 : Int32) (x3 : Int32) (y4 : zAV) (y5 : zAV) (y6 : zAV) (w1 : Int32) (w3 : Int32) (w5 : Int32) : zev cc_X2_findTurn G 9 krV (zE 0 (.aload_n 0) 1 :: zEk 1 (.bipush (-2)) 2 w1 :: zEk 3 (.bipush (-2)) 2 w3 :: zEk 5 (.bipush (-2)) 2 w5 :: es) σ [vR 2 0, vR 4 i1, vI x2, vI x3, y4, y5, y6] [] = zev cc_X2_findTurn G 9 krV es σ [vR 2 0, vR 4 i1, vI x2, vI x3, y4, y5, y6] [vI w5, vI w3, vI w1, vR 2 0] := rfl
theorem t_X2_findTurn_10 {G : Nat → zH → List zAV → List zAV → Option zH} (es : List zEnt) (σ : zH) (i1 : Nat) (x2 : Int32) (x3 : Int32) (y4 : zAV) (y5 : zAV) (y6 : zAV) (w10 : Int32) : zev cc_X2_findTurn G 9 krV (zEk 10 (.bipush 17) 2 w10 :: zE 12 (.istore 4) 2 :: zE 14 (.aload_n 0) 1 :: zEf 15 (.getfield 18) 3 2 2 129 (2, 8, 6) :: zE 18 (.aload_n 0) 1 :: zEf 19 (.getfield 28) 3 2 0 127 (2, 8, 0) :: es) σ [vR 2 0, vR 4 i1, vI x2, vI x3, y4, y5, y6] [] = zev cc_X2_findTurn G 9 krV es σ [vR 2 0, vR 4 i1, vI x2, vI x3, vI w10, y5, y6] [vR 8 0, vR 8 6] := rfl
theorem t_X2_findTurn_25 {G : Nat → zH → List zAV → List zAV → Option zH} (es : List zEnt) (σ : zH) (i1 : Nat) (x2 : Int32) (x3 : Int32) (x4 : Int32) (y5 : zAV) (y6 : zAV)  : zev cc_X2_findTurn G 9 krV (zE 25 (.aload_n 0) 1 :: zEf 26 (.getfield 18) 3 2 2 129 (2, 8, 6) :: es) σ [vR 2 0, vR 4 i1, vI x2, vI x3, vI x4, y5, y6] [] = zev cc_X2_findTurn G 9 krV es σ [vR 2 0, vR 4 i1, vI x2, vI x3, vI x4, y5, y6] [vR 8 6] := rfl
theorem t_X2_findTurn_32 {G : Nat → zH → List zAV → List zAV → Option zH} (es : List zEnt) (σ : zH) (i1 : Nat) (x2 : Int32) (x3 : Int32) (x4 : Int32) (y5 : zAV) (y6 : zAV) (w32 : Int32) : zev cc_X2_findTurn G 9 krV (zEk 32 (.iconst 0) 1 w32 :: zE 33 (.istore 5) 2 :: es) σ [vR 2 0, vR 4 i1, vI x2, vI x3, vI x4, y5, y6] [] = zev cc_X2_findTurn G 9 krV es σ [vR 2 0, vR 4 i1, vI x2, vI x3, vI x4, vI w32, y6] [] := rfl
theorem t_X2_findTurn_35 {G : Nat → zH → List zAV → List zAV → Option zH} (es : List zEnt) (σ : zH) (i1 : Nat) (x2 : Int32) (x3 : Int32) (x4 : Int32) (x5 : Int32) (y6 : zAV) (w37 : Int32) : zev cc_X2_findTurn G 9 krV (zE 35 (.iload 5) 2 :: zEk 37 (.bipush 48) 2 w37 :: es) σ [vR 2 0, vR 4 i1, vI x2, vI x3, vI x4, vI x5, y6] [] = zev cc_X2_findTurn G 9 krV es σ [vR 2 0, vR 4 i1, vI x2, vI x3, vI x4, vI x5, y6] [vI w37, vI x5] := rfl
theorem t_X2_findTurn_42 {G : Nat → zH → List zAV → List zAV → Option zH} (es : List zEnt) (σ : zH) (i1 : Nat) (x2 : Int32) (x3 : Int32) (x4 : Int32) (x5 : Int32) (y6 : zAV) (w42 : Int32) : zev cc_X2_findTurn G 9 krV (zEk 42 (.iconst 1) 1 w42 :: zE 43 (.istore 6) 2 :: es) σ [vR 2 0, vR 4 i1, vI x2, vI x3, vI x4, vI x5, y6] [] = zev cc_X2_findTurn G 9 krV es σ [vR 2 0, vR 4 i1, vI x2, vI x3, vI x4, vI x5, vI w42] [] := rfl
theorem t_X2_findTurn_45 {G : Nat → zH → List zAV → List zAV → Option zH} (es : List zEnt) (σ : zH) (i1 : Nat) (x2 : Int32) (x3 : Int32) (x4 : Int32) (x5 : Int32) (x6 : Int32)   : zev cc_X2_findTurn G 9 krV (zE 45 (.iload 6) 2 :: zE 47 (.iload 4) 2 :: es) σ [vR 2 0, vR 4 i1, vI x2, vI x3, vI x4, vI x5, vI x6] [] = zev cc_X2_findTurn G 9 krV es σ [vR 2 0, vR 4 i1, vI x2, vI x3, vI x4, vI x5, vI x6] [vI x4, vI x6] := rfl
theorem t_X2_findTurn_52 {G : Nat → zH → List zAV → List zAV → Option zH} (es : List zEnt) (σ : zH) (i1 : Nat) (x2 : Int32) (x3 : Int32) (x4 : Int32) (x5 : Int32) (x6 : Int32)   : zev cc_X2_findTurn G 9 krV (zE 52 (.aload_n 0) 1 :: zEf 53 (.getfield 12) 3 2 1 128 (2, 8, 5) :: zE 56 (.aload_n 0) 1 :: zEf 57 (.getfield 18) 3 2 2 129 (2, 8, 6) :: es) σ [vR 2 0, vR 4 i1, vI x2, vI x3, vI x4, vI x5, vI x6] [] = zev cc_X2_findTurn G 9 krV es σ [vR 2 0, vR 4 i1, vI x2, vI x3, vI x4, vI x5, vI x6] [vR 8 6, vR 8 5] := rfl
theorem t_X2_findTurn_63 {G : Nat → zH → List zAV → List zAV → Option zH} (es : List zEnt) (σ : zH) (i1 : Nat) (x2 : Int32) (x3 : Int32) (x4 : Int32) (x5 : Int32) (x6 : Int32)   : zev cc_X2_findTurn G 9 krV (zE 63 (.aload_n 0) 1 :: zEf 64 (.getfield 12) 3 2 1 128 (2, 8, 5) :: zE 67 (.aload_n 0) 1 :: zEf 68 (.getfield 12) 3 2 1 128 (2, 8, 5) :: zEf 71 (.getfield 59) 3 8 1 90 (0, 0, 0) :: zE 74 (.iload 6) 2 :: zE 76 .iadd 1 :: es) σ [vR 2 0, vR 4 i1, vI x2, vI x3, vI x4, vI x5, vI x6] [] = zev cc_X2_findTurn G 9 krV es σ [vR 2 0, vR 4 i1, vI x2, vI x3, vI x4, vI x5, vI x6] [vI ((σ.1 8 5 1) + x6), vR 8 5] := rfl
theorem t_X2_findTurn_80 {G : Nat → zH → List zAV → List zAV → Option zH} (es : List zEnt) (σ : zH) (i1 : Nat) (x2 : Int32) (x3 : Int32) (x4 : Int32) (x5 : Int32) (x6 : Int32)   : zev cc_X2_findTurn G 9 krV (zE 80 (.aload_n 0) 1 :: zEf 81 (.getfield 12) 3 2 1 128 (2, 8, 5) :: zE 84 (.aload_n 1) 1 :: zE 85 (.iload_n 3) 1 :: zE 86 (.iload 5) 2 :: zE 88 .isub 1 :: es) σ [vR 2 0, vR 4 i1, vI x2, vI x3, vI x4, vI x5, vI x6] [] = zev cc_X2_findTurn G 9 krV es σ [vR 2 0, vR 4 i1, vI x2, vI x3, vI x4, vI x5, vI x6] [vI (x3 - x5), vR 4 i1, vR 8 5] := rfl
theorem t_X2_findTurn_92 {G : Nat → zH → List zAV → List zAV → Option zH} (es : List zEnt) (σ : zH) (i1 : Nat) (x2 : Int32) (x3 : Int32) (x4 : Int32) (x5 : Int32) (x6 : Int32)   : zev cc_X2_findTurn G 9 krV (zE 92 (.aload_n 0) 1 :: zEf 93 (.getfield 12) 3 2 1 128 (2, 8, 5) :: zEf 96 (.getfield 75) 3 8 4 97 (0, 0, 0) :: zE 99 (.iload_n 2) 1 :: es) σ [vR 2 0, vR 4 i1, vI x2, vI x3, vI x4, vI x5, vI x6] [] = zev cc_X2_findTurn G 9 krV es σ [vR 2 0, vR 4 i1, vI x2, vI x3, vI x4, vI x5, vI x6] [vI x2, vI (σ.1 8 5 4)] := rfl
theorem t_X2_findTurn_103 {G : Nat → zH → List zAV → List zAV → Option zH} (es : List zEnt) (σ : zH) (i1 : Nat) (x2 : Int32) (x3 : Int32) (x5 : Int32) (x6 : Int32) (y4 : zAV)  : zev cc_X2_findTurn G 9 krV (zE 103 (.iload 6) 2 :: zE 105 (.istore 4) 2 :: zE 107 (.aload_n 0) 1 :: zE 108 (.iload 5) 2 :: zE 110 (.iload 6) 2 :: zE 112 (.aload_n 0) 1 :: zEf 113 (.getfield 12) 3 2 1 128 (2, 8, 5) :: zEf 116 (.getfield 53) 3 8 12 112 (0, 0, 0) :: es) σ [vR 2 0, vR 4 i1, vI x2, vI x3, y4, vI x5, vI x6] [] = zev cc_X2_findTurn G 9 krV es σ [vR 2 0, vR 4 i1, vI x2, vI x3, vI x6, vI x5, vI x6] [vI (σ.1 8 5 12), vI x6, vI x5, vR 2 0] := rfl
theorem t_X2_findTurn_122 {G : Nat → zH → List zAV → List zAV → Option zH} (es : List zEnt) (σ : zH) (i1 : Nat) (x2 : Int32) (x3 : Int32) (x4 : Int32) (x5 : Int32) (x6 : Int32)  (w122 : Int32) : zev cc_X2_findTurn G 9 krV (zEk 122 (.iinc 6 1) 3 w122 :: es) σ [vR 2 0, vR 4 i1, vI x2, vI x3, vI x4, vI x5, vI x6] [] = zev cc_X2_findTurn G 9 krV es σ [vR 2 0, vR 4 i1, vI x2, vI x3, vI x4, vI x5, vI (x6 + w122)] [] := rfl
theorem t_X2_findTurn_128 {G : Nat → zH → List zAV → List zAV → Option zH} (es : List zEnt) (σ : zH) (i1 : Nat) (x2 : Int32) (x3 : Int32) (x4 : Int32) (x5 : Int32) (y6 : zAV)  : zev cc_X2_findTurn G 9 krV (zE 128 (.iload 5) 2 :: zE 130 (.iload_n 3) 1 :: es) σ [vR 2 0, vR 4 i1, vI x2, vI x3, vI x4, vI x5, y6] [] = zev cc_X2_findTurn G 9 krV es σ [vR 2 0, vR 4 i1, vI x2, vI x3, vI x4, vI x5, y6] [vI x3, vI x5] := rfl
theorem t_X2_findTurn_134 {G : Nat → zH → List zAV → List zAV → Option zH} (es : List zEnt) (σ : zH) (i1 : Nat) (x2 : Int32) (x3 : Int32) (x4 : Int32) (x5 : Int32) (y6 : zAV) (w139 : Int32) : zev cc_X2_findTurn G 9 krV (zE 134 (.aload_n 0) 1 :: zEf 135 (.getfield 18) 3 2 2 129 (2, 8, 6) :: zE 138 (.aload_n 1) 1 :: zEk 139 (.iconst 1) 1 w139 :: es) σ [vR 2 0, vR 4 i1, vI x2, vI x3, vI x4, vI x5, y6] [] = zev cc_X2_findTurn G 9 krV es σ [vR 2 0, vR 4 i1, vI x2, vI x3, vI x4, vI x5, y6] [vI w139, vR 4 i1, vR 8 6] := rfl
theorem t_X2_findTurn_143 {G : Nat → zH → List zAV → List zAV → Option zH} (es : List zEnt) (σ : zH) (i1 : Nat) (x2 : Int32) (x3 : Int32) (x4 : Int32) (x5 : Int32) (y6 : zAV) (w143 : Int32) : zev cc_X2_findTurn G 9 krV (zEk 143 (.iinc 5 1) 3 w143 :: es) σ [vR 2 0, vR 4 i1, vI x2, vI x3, vI x4, vI x5, y6] [] = zev cc_X2_findTurn G 9 krV es σ [vR 2 0, vR 4 i1, vI x2, vI x3, vI x4, vI (x5 + w143), y6] [] := rfl
noncomputable def k_X2_findTurn_45 (c128 : zH → Nat → Int32 → Int32 → Int32 → Int32 → Option zH) : Nat → zH → Nat → Int32 → Int32 → Int32 → Int32 → Int32 → Option zH
  | 0, _, _, _, _, _, _, _ => none
  | n + 1, σ, i1, x2, x3, x4, x5, x6 =>
    if x6 < x4 then
      (d_X8_copyFrom σ 5 6).bind fun σ1 =>
      zlet (uI σ1 8 5 3 ((σ1.1 8 5 1) + x6)) fun σ2 =>
      (d_X8_passQuarters σ2 5 i1 (x3 - x5)).bind fun σ3 =>
      if (σ3.1 8 5 4) = x2 then
        (d_X2_keep σ3 x5 x6 (σ3.1 8 5 12)).bind fun σ4 =>
        (k_X2_findTurn_45 c128 n) σ4 i1 x2 x3 x6 x5 (x6 + (1 : Int32))
      else
        (k_X2_findTurn_45 c128 n) σ3 i1 x2 x3 x4 x5 (x6 + (1 : Int32))
    else
      c128 σ i1 x2 x3 x4 x5
theorem e_X2_findTurn_45 (c128 : zH → Nat → Int32 → Int32 → Int32 → Int32 → Option zH) (n : Nat) (σ : zH) (i1 : Nat) (x2 : Int32) (x3 : Int32) (x4 : Int32) (x5 : Int32) (x6 : Int32)  : k_X2_findTurn_45 c128 (n + 1) σ i1 x2 x3 x4 x5 x6 = zin cc_X2_findTurn (fun t => if t = 45 then some (gl_X2_findTurn_45 (k_X2_findTurn_45 c128 n)) else if t = 128 then some (gl_X2_findTurn_128 c128) else none) 9 krV b_X2_findTurn 45 σ [vR 2 0, vR 4 i1, vI x2, vI x3, vI x4, vI x5, vI x6] [] := by
  rw [k_X2_findTurn_45]
  refine Eq.symm ((zin_b (es := q_X2_findTurn_45) rfl).trans ?_)
  refine (t_X2_findTurn_45 _ _ _ _ _ _ _ _).trans ?_
  refine x_icmp.trans (pif_ge ?_ ?_)
  · exact (zrun_c rfl).trans (glr_X2_findTurn_128 _ _ _ _ _ _ _ _)
  · refine (t_X2_findTurn_52 _ _ _ _ _ _ _ _).trans ?_
    refine (x_callV rfl rfl rfl rfl).trans ((cl_X2_findTurn_X8_copyFrom _ _ _).trans ((gr_X8_copyFrom _ _ _ _).trans (pbd fun _ => ?_)))
    refine (t_X2_findTurn_63 _ _ _ _ _ _ _ _).trans ?_
    refine x_pf0.trans (plt fun _ => ?_)
    refine (t_X2_findTurn_80 _ _ _ _ _ _ _ _).trans ?_
    refine (x_callV rfl rfl rfl rfl).trans ((cl_X2_findTurn_X8_passQuarters _ _ _).trans ((gr_X8_passQuarters _ _ _ _ _).trans (pbd fun _ => ?_)))
    refine (t_X2_findTurn_92 _ _ _ _ _ _ _ _).trans ?_
    refine x_icmp.trans (pif_ne ?_ ?_)
    · refine (zrun_b (es := q_X2_findTurn_122) rfl rfl).trans ?_
      refine (t_X2_findTurn_122 _ _ _ _ _ _ _ _ _).trans ?_
      refine x_goto.trans ?_
      exact (zrun_c rfl).trans (glr_X2_findTurn_45 _ _ _ _ _ _ _ _)
    · refine (t_X2_findTurn_103 _ _ _ _ _ _ _ _).trans ?_
      refine (x_callV rfl rfl rfl rfl).trans ((cl_X2_findTurn_X2_keep _ _ _).trans ((gr_X2_keep _ _ _ _ _).trans (pbd fun _ => ?_)))
      refine (t_X2_findTurn_122 _ _ _ _ _ _ _ _ _).trans ?_
      refine x_goto.trans ?_
      exact (zrun_c rfl).trans (glr_X2_findTurn_45 _ _ _ _ _ _ _ _)
theorem s_X2_findTurn_45 {X : zX} (hX : zHX X) {c128 : zH → Nat → Int32 → Int32 → Int32 → Int32 → Option zH} (h128 : ∀ σ L st r, gl_X2_findTurn_128 c128 σ L st = some r → zGW X 20 krV 128 σ L st r) : ∀ n σ L st r, gl_X2_findTurn_45 (k_X2_findTurn_45 c128 n) σ L st = some r → zGW X 20 krV 45 σ L st r := by
  intro n
  induction n with
  | zero =>
    intro σ L st r h
    unfold gl_X2_findTurn_45 at h
    split at h <;> cases h
  | succ n ih =>
    intro σ L st r h
    unfold gl_X2_findTurn_45 at h
    split at h
    · exact zin_ok (hy_X2_findTurn hX) bk_X2_findTurn (fun t f hf => by
      by_cases e45 : t = 45
      · rw [if_pos e45] at hf; subst e45; cases hf; exact ih
      rw [if_neg e45] at hf
      by_cases e128 : t = 128
      · rw [if_pos e128] at hf; subst e128; cases hf; exact h128
      rw [if_neg e128] at hf
      cases hf) ((e_X2_findTurn_45 _ _ _ _ _ _ _ _ _).symm.trans h)
    · cases h
noncomputable def j_X2_findTurn_128 (c35 : zH → Nat → Int32 → Int32 → Int32 → Int32 → Option zH) (σ : zH) (i1 : Nat) (x2 : Int32) (x3 : Int32) (x4 : Int32) (x5 : Int32) : Option zH :=
  if x5 < x3 then
    (d_X8_passQuarters σ 6 i1 (1 : Int32)).bind fun σ1 =>
    c35 σ1 i1 x2 x3 x4 (x5 + (1 : Int32))
  else
    c35 σ i1 x2 x3 x4 (x5 + (1 : Int32))
theorem e_X2_findTurn_128 (c35 : zH → Nat → Int32 → Int32 → Int32 → Int32 → Option zH) (σ : zH) (i1 : Nat) (x2 : Int32) (x3 : Int32) (x4 : Int32) (x5 : Int32) (y6 : zAV) : j_X2_findTurn_128 c35 σ i1 x2 x3 x4 x5 = zin cc_X2_findTurn (fun t => if t = 35 then some (gl_X2_findTurn_35 c35) else none) 9 krV b_X2_findTurn 128 σ [vR 2 0, vR 4 i1, vI x2, vI x3, vI x4, vI x5, y6] [] := by
  unfold j_X2_findTurn_128
  refine Eq.symm ((zin_b (es := q_X2_findTurn_128) rfl).trans ?_)
  refine (t_X2_findTurn_128 _ _ _ _ _ _ _ _).trans ?_
  refine x_icmp.trans (pif_ge ?_ ?_)
  · refine (zrun_b (es := q_X2_findTurn_143) rfl rfl).trans ?_
    refine (t_X2_findTurn_143 _ _ _ _ _ _ _ _ _).trans ?_
    refine x_goto.trans ?_
    exact (zrun_c rfl).trans (glr_X2_findTurn_35 _ _ _ _ _ _ _ _)
  · refine (t_X2_findTurn_134 _ _ _ _ _ _ _ _ _).trans ?_
    refine (x_callV rfl rfl rfl rfl).trans ((cl_X2_findTurn_X8_passQuarters _ _ _).trans ((gr_X8_passQuarters _ _ _ _ _).trans (pbd fun _ => ?_)))
    refine (t_X2_findTurn_143 _ _ _ _ _ _ _ _ _).trans ?_
    refine x_goto.trans ?_
    exact (zrun_c rfl).trans (glr_X2_findTurn_35 _ _ _ _ _ _ _ _)
theorem s_X2_findTurn_128 {X : zX} (hX : zHX X) {c35 : zH → Nat → Int32 → Int32 → Int32 → Int32 → Option zH} (h35 : ∀ σ L st r, gl_X2_findTurn_35 c35 σ L st = some r → zGW X 20 krV 35 σ L st r) : ∀ σ L st r, gl_X2_findTurn_128 (j_X2_findTurn_128 c35) σ L st = some r → zGW X 20 krV 128 σ L st r := by
  intro σ L st r h
  unfold gl_X2_findTurn_128 at h
  split at h
  · exact zin_ok (hy_X2_findTurn hX) bk_X2_findTurn (fun t f hf => by
    by_cases e35 : t = 35
    · rw [if_pos e35] at hf; subst e35; cases hf; exact h35
    rw [if_neg e35] at hf
    cases hf) ((e_X2_findTurn_128 _ _ _ _ _ _ _ _).symm.trans h)
  · cases h
noncomputable def k_X2_findTurn_35  : Nat → zH → Nat → Int32 → Int32 → Int32 → Int32 → Option zH
  | 0, _, _, _, _, _, _ => none
  | n + 1, σ, i1, x2, x3, x4, x5 =>
    if x5 < (48 : Int32) then
      (k_X2_findTurn_45 (j_X2_findTurn_128 (k_X2_findTurn_35 n)) zN) σ i1 x2 x3 x4 x5 (1 : Int32)
    else
      some σ
theorem e_X2_findTurn_35  (n : Nat) (σ : zH) (i1 : Nat) (x2 : Int32) (x3 : Int32) (x4 : Int32) (x5 : Int32) (y6 : zAV) : k_X2_findTurn_35 (n + 1) σ i1 x2 x3 x4 x5 = zin cc_X2_findTurn (fun t => if t = 45 then some (gl_X2_findTurn_45 (k_X2_findTurn_45 (j_X2_findTurn_128 (k_X2_findTurn_35 n)) zN)) else none) 9 krV b_X2_findTurn 35 σ [vR 2 0, vR 4 i1, vI x2, vI x3, vI x4, vI x5, y6] [] := by
  rw [k_X2_findTurn_35]
  refine Eq.symm ((zin_b (es := q_X2_findTurn_35) rfl).trans ?_)
  refine (t_X2_findTurn_35 _ _ _ _ _ _ _ _ _).trans ?_
  refine x_icmp.trans (pif_ge ?_ ?_)
  · refine (zrun_b (es := q_X2_findTurn_149) rfl rfl).trans ?_
    exact x_vret
  · refine (t_X2_findTurn_42 _ _ _ _ _ _ _ _ _).trans ?_
    refine x_cut.trans ?_
    exact (zrun_c rfl).trans (glr_X2_findTurn_45 _ _ _ _ _ _ _ _)
theorem s_X2_findTurn_35 {X : zX} (hX : zHX X)   : ∀ n σ L st r, gl_X2_findTurn_35 (k_X2_findTurn_35 n) σ L st = some r → zGW X 20 krV 35 σ L st r := by
  intro n
  induction n with
  | zero =>
    intro σ L st r h
    unfold gl_X2_findTurn_35 at h
    split at h <;> cases h
  | succ n ih =>
    intro σ L st r h
    unfold gl_X2_findTurn_35 at h
    split at h
    · exact zin_ok (hy_X2_findTurn hX) bk_X2_findTurn (fun t f hf => by
      by_cases e45 : t = 45
      · rw [if_pos e45] at hf; subst e45; cases hf; exact ((fun σ L st r h => s_X2_findTurn_45 hX (s_X2_findTurn_128 hX ih) zN σ L st r h))
      rw [if_neg e45] at hf
      cases hf) ((e_X2_findTurn_35 _ _ _ _ _ _ _ _).symm.trans h)
    · cases h
noncomputable def d_X2_findTurn (σ : zH) (ia1 : Nat) (xa2 : Int32) (xa3 : Int32) : Option zH :=
  (d_X2_keep σ (-2 : Int32) (-2 : Int32) (-2 : Int32)).bind fun σ1 =>
  (d_X8_copyFrom σ1 6 0).bind fun σ2 =>
  (d_X8_beginCounts σ2 6).bind fun σ3 =>
  (k_X2_findTurn_35 zN) σ3 ia1 xa2 xa3 (17 : Int32) (0 : Int32)
theorem e_X2_findTurn (σ : zH) (ia1 : Nat) (xa2 : Int32) (xa3 : Int32) : d_X2_findTurn σ ia1 xa2 xa3 = zin cc_X2_findTurn (fun t => if t = 35 then some (gl_X2_findTurn_35 (k_X2_findTurn_35 zN)) else none) 9 krV b_X2_findTurn 0 σ [vR 2 0, vR 4 ia1, vI xa2, vI xa3, vU, vU, vU] [] := by
  unfold d_X2_findTurn
  refine Eq.symm ((zin_b (es := q_X2_findTurn_0) rfl).trans ?_)
  refine (t_X2_findTurn_0 _ _ _ _ _ _ _ _ _ _ _).trans ?_
  refine (x_callV rfl rfl rfl rfl).trans ((cl_X2_findTurn_X2_keep _ _ _).trans ((gr_X2_keep _ _ _ _ _).trans (pbd fun _ => ?_)))
  refine (t_X2_findTurn_10 _ _ _ _ _ _ _ _ _).trans ?_
  refine (x_callV rfl rfl rfl rfl).trans ((cl_X2_findTurn_X8_copyFrom _ _ _).trans ((gr_X8_copyFrom _ _ _ _).trans (pbd fun _ => ?_)))
  refine (t_X2_findTurn_25 _ _ _ _ _ _ _ _).trans ?_
  refine (x_callV rfl rfl rfl rfl).trans ((cl_X2_findTurn_X8_beginCounts _ _ _).trans ((gr_X8_beginCounts _ _ _).trans (pbd fun _ => ?_)))
  refine (t_X2_findTurn_32 _ _ _ _ _ _ _ _ _).trans ?_
  refine x_cut.trans ?_
  exact (zrun_c rfl).trans (glr_X2_findTurn_35 _ _ _ _ _ _ _ _)
noncomputable def g_X2_findTurn {ρ : Type} (σ : zH) (av : List zAV) (q : zH → zAV → Option ρ) : Option ρ := match av with
  | [.inr (.inr (.inl (2, 0))), .inr (.inr (.inl (4, ia1))), .inl xa2, .inl xa3] => (d_X2_findTurn σ ia1 xa2 xa3).bind fun σ => q σ vU
  | _ => none
theorem gr_X2_findTurn {ρ : Type} (σ : zH) (ia1 : Nat) (xa2 : Int32) (xa3 : Int32) (q : zH → zAV → Option ρ) : g_X2_findTurn σ [vR 2 0, vR 4 ia1, vI xa2, vI xa3] q = (d_X2_findTurn σ ia1 xa2 xa3).bind fun σ => q σ vU := rfl
theorem c_X2_findTurn {ρ : Type} {X : zX} (hX : zHX X) {σ : zH} {av : List zAV} {q : zH → zAV → Option ρ} {r : ρ} (h : g_X2_findTurn σ av q = some r) (hv : ∀ a ∈ av, zval X a) : zcon X 20 σ av q r := by
  unfold g_X2_findTurn at h
  split at h
  · exact zcon_V (n := 20) (ml := 7) (rc := 9) (st := 0) (kd := 2) (np := 3) (by decide +kernel) rfl ⟨_, _, rfl, rfl⟩ (Nat.le_of_ble_eq_true rfl) hv h (fun y h1 => (zin_ok (hy_X2_findTurn hX) bk_X2_findTurn (fun t f hf => by
      by_cases e35 : t = 35
      · rw [if_pos e35] at hf; subst e35; cases hf; exact ((fun σ L st r h => s_X2_findTurn_35 hX  zN σ L st r h))
      rw [if_neg e35] at hf
      cases hf) ((e_X2_findTurn _ _ _ _).symm.trans h1)))
  · cases h
/-! SleepWaves$Forecast.findHarm(LSleepWaves$Law;I)V -/
def q_X2_findHarm_23 : List zEnt := zE 23 (.aload_n 0) 1 :: zEf 24 (.getfield 12) 3 2 1 128 (2, 8, 5) :: zEf 27 (.getfield 53) 3 8 12 112 (0, 0, 0) :: zE 30 (.istore_n 3) 1 :: zEk 31 (.iconst 0) 1 0 :: zE 32 (.istore 4) 2 :: [zE 34 .nop 0]
def q_X2_findHarm_20 : List zEnt := zEc 20 (.invokevirtual 41) 3 82 3 92 1 :: q_X2_findHarm_23
def q_X2_findHarm_14 : List zEnt := zE 14 (.aload_n 0) 1 :: zEf 15 (.getfield 12) 3 2 1 128 (2, 8, 5) :: zE 18 (.aload_n 1) 1 :: zE 19 (.iload_n 2) 1 :: q_X2_findHarm_20
def q_X2_findHarm_11 : List zEnt := zEc 11 (.invokevirtual 38) 3 15 1 89 1 :: q_X2_findHarm_14
def q_X2_findHarm_10 : List zEnt := zE 10 (.aload_n 0) 1 :: q_X2_findHarm_11
def q_X2_findHarm_7 : List zEnt := zEc 7 (.invokevirtual 68) 3 16 4 98 1 :: q_X2_findHarm_10
def q_X2_findHarm_0 : List zEnt := zE 0 (.aload_n 0) 1 :: zEk 1 (.bipush (-2)) 2 (-2) :: zEk 3 (.bipush (-2)) 2 (-2) :: zEk 5 (.bipush (-2)) 2 (-2) :: q_X2_findHarm_7
def q_X2_findHarm_105 : List zEnt := zEa 105 (.goto (-71)) 3 34 :: []
def q_X2_findHarm_102 : List zEnt := zEk 102 (.iinc 4 1) 3 1 :: q_X2_findHarm_105
def q_X2_findHarm_99 : List zEnt := zEc 99 (.invokevirtual 68) 3 16 4 98 1 :: q_X2_findHarm_102
def q_X2_findHarm_85 : List zEnt := zE 85 (.aload_n 0) 1 :: zEf 86 (.getfield 12) 3 2 1 128 (2, 8, 5) :: zEf 89 (.getfield 53) 3 8 12 112 (0, 0, 0) :: zE 92 (.istore_n 3) 1 :: zE 93 (.aload_n 0) 1 :: zE 94 (.iload 4) 2 :: zE 96 (.iload_n 3) 1 :: zEk 97 (.bipush (-2)) 2 (-2) :: q_X2_findHarm_99
def q_X2_findHarm_82 : List zEnt := zEa 82 (.if_icmp .ge 20) 3 102 :: q_X2_findHarm_85
def q_X2_findHarm_74 : List zEnt := zE 74 (.aload_n 0) 1 :: zEf 75 (.getfield 12) 3 2 1 128 (2, 8, 5) :: zEf 78 (.getfield 53) 3 8 12 112 (0, 0, 0) :: zE 81 (.iload_n 3) 1 :: q_X2_findHarm_82
def q_X2_findHarm_71 : List zEnt := zEc 71 (.invokevirtual 41) 3 82 3 92 1 :: q_X2_findHarm_74
def q_X2_findHarm_65 : List zEnt := zE 65 (.aload_n 0) 1 :: zEf 66 (.getfield 12) 3 2 1 128 (2, 8, 5) :: zE 69 (.aload_n 1) 1 :: zE 70 (.iload_n 2) 1 :: q_X2_findHarm_71
def q_X2_findHarm_62 : List zEnt := zEc 62 (.invokevirtual 87) 3 5 2 110 1 :: q_X2_findHarm_65
def q_X2_findHarm_53 : List zEnt := zE 53 (.aload_n 0) 1 :: zEf 54 (.getfield 12) 3 2 1 128 (2, 8, 5) :: zEf 57 (.getfield 78) 3 8 0 86 (1, 0, 1) :: zE 60 (.iload 4) 2 :: q_X2_findHarm_62
def q_X2_findHarm_50 : List zEnt := zEc 50 (.invokevirtual 38) 3 15 1 89 1 :: q_X2_findHarm_53
def q_X2_findHarm_49 : List zEnt := zE 49 (.aload_n 0) 1 :: q_X2_findHarm_50
def q_X2_findHarm_46 : List zEnt := zEa 46 (.if_icmp .ge 62) 3 108 :: q_X2_findHarm_49
def q_X2_findHarm_34 : List zEnt := zE 34 (.iload 4) 2 :: zE 36 (.aload_n 0) 1 :: zEf 37 (.getfield 28) 3 2 0 127 (2, 8, 0) :: zEf 40 (.getfield 78) 3 8 0 86 (1, 0, 1) :: zEf 43 (.getfield 82) 3 0 5 57 (0, 0, 0) :: q_X2_findHarm_46
def q_X2_findHarm_108 : List zEnt := zE 108 .return_ 1 :: []
def b_X2_findHarm : List (Nat × List zEnt) := [(0, q_X2_findHarm_0), (34, q_X2_findHarm_34), (102, q_X2_findHarm_102), (108, q_X2_findHarm_108)]
theorem bk_X2_findHarm : zchB 21 b_X2_findHarm = true := by decide +kernel
noncomputable def cc_X2_findHarm {ρ : Type} : Nat → zH → List zAV → (zH → zAV → Option ρ) → Option ρ := fun n σ av q => if n = 16 then g_X2_keep σ av q else if n = 15 then g_X2_restart σ av q else if n = 82 then g_X8_passQuarters σ av q else if n = 5 then g_X0_dropBell σ av q else none
theorem cs_X2_findHarm {ρ : Type} {X : zX} (hX : zHX X) : zCS X (cc_X2_findHarm (ρ := ρ)) := by
  intro n σ av q r h hv
  unfold cc_X2_findHarm at h
  by_cases e_X2_keep : n = 16
  · rw [if_pos e_X2_keep] at h
    subst e_X2_keep
    exact c_X2_keep hX h hv
  rw [if_neg e_X2_keep] at h
  by_cases e_X2_restart : n = 15
  · rw [if_pos e_X2_restart] at h
    subst e_X2_restart
    exact c_X2_restart hX h hv
  rw [if_neg e_X2_restart] at h
  by_cases e_X8_passQuarters : n = 82
  · rw [if_pos e_X8_passQuarters] at h
    subst e_X8_passQuarters
    exact c_X8_passQuarters hX h hv
  rw [if_neg e_X8_passQuarters] at h
  by_cases e_X0_dropBell : n = 5
  · rw [if_pos e_X0_dropBell] at h
    subst e_X0_dropBell
    exact c_X0_dropBell hX h hv
  rw [if_neg e_X0_dropBell] at h
  cases h
theorem cl_X2_findHarm_X2_keep {ρ : Type} (σ : zH) (av : List zAV) (q : zH → zAV → Option ρ) : cc_X2_findHarm 16 σ av q = g_X2_keep σ av q := rfl
theorem cl_X2_findHarm_X2_restart {ρ : Type} (σ : zH) (av : List zAV) (q : zH → zAV → Option ρ) : cc_X2_findHarm 15 σ av q = g_X2_restart σ av q := rfl
theorem cl_X2_findHarm_X8_passQuarters {ρ : Type} (σ : zH) (av : List zAV) (q : zH → zAV → Option ρ) : cc_X2_findHarm 82 σ av q = g_X8_passQuarters σ av q := rfl
theorem cl_X2_findHarm_X0_dropBell {ρ : Type} (σ : zH) (av : List zAV) (q : zH → zAV → Option ρ) : cc_X2_findHarm 5 σ av q = g_X0_dropBell σ av q := rfl
theorem hy_X2_findHarm {ρ : Type} {X : zX} (hX : zHX X) : zHY X 21 (cc_X2_findHarm (ρ := ρ)) := zHX.hY hX (cs_X2_findHarm hX) (zmok_all 21 (by decide))
def gl_X2_findHarm_34 {ρ : Type} (f : zH → Nat → Int32 → Int32 → Int32 → Option ρ) (σ : zH) (L st : List zAV) : Option ρ := match L, st with
  | [.inr (.inr (.inl (2, 0))), .inr (.inr (.inl (4, i1))), .inl x2, .inl x3, .inl x4], [] => f σ i1 x2 x3 x4
  | _, _ => none
theorem glr_X2_findHarm_34 {ρ : Type} (f : zH → Nat → Int32 → Int32 → Int32 → Option ρ) (σ : zH) (i1 : Nat) (x2 : Int32) (x3 : Int32) (x4 : Int32)  : gl_X2_findHarm_34 f σ [vR 2 0, vR 4 i1, vI x2, vI x3, vI x4] [] = f σ i1 x2 x3 x4 := rfl
theorem t_X2_findHarm_0 {G : Nat → zH → List zAV → List zAV → Option zH} (es : List zEnt) (σ : zH) (i1 : Nat) (x2 : Int32) (y3 : zAV) (y4 : zAV) (w1 : Int32) (w3 : Int32) (w5 : Int32) : zev cc_X2_findHarm G 9 krV (zE 0 (.aload_n 0) 1 :: zEk 1 (.bipush (-2)) 2 w1 :: zEk 3 (.bipush (-2)) 2 w3 :: zEk 5 (.bipush (-2)) 2 w5 :: es) σ [vR 2 0, vR 4 i1, vI x2, y3, y4] [] = zev cc_X2_findHarm G 9 krV es σ [vR 2 0, vR 4 i1, vI x2, y3, y4] [vI w5, vI w3, vI w1, vR 2 0] := rfl
theorem t_X2_findHarm_10 {G : Nat → zH → List zAV → List zAV → Option zH} (es : List zEnt) (σ : zH) (i1 : Nat) (x2 : Int32) (y3 : zAV) (y4 : zAV)  : zev cc_X2_findHarm G 9 krV (zE 10 (.aload_n 0) 1 :: es) σ [vR 2 0, vR 4 i1, vI x2, y3, y4] [] = zev cc_X2_findHarm G 9 krV es σ [vR 2 0, vR 4 i1, vI x2, y3, y4] [vR 2 0] := rfl
theorem t_X2_findHarm_14 {G : Nat → zH → List zAV → List zAV → Option zH} (es : List zEnt) (σ : zH) (i1 : Nat) (x2 : Int32) (y3 : zAV) (y4 : zAV)  : zev cc_X2_findHarm G 9 krV (zE 14 (.aload_n 0) 1 :: zEf 15 (.getfield 12) 3 2 1 128 (2, 8, 5) :: zE 18 (.aload_n 1) 1 :: zE 19 (.iload_n 2) 1 :: es) σ [vR 2 0, vR 4 i1, vI x2, y3, y4] [] = zev cc_X2_findHarm G 9 krV es σ [vR 2 0, vR 4 i1, vI x2, y3, y4] [vI x2, vR 4 i1, vR 8 5] := rfl
theorem t_X2_findHarm_23 {G : Nat → zH → List zAV → List zAV → Option zH} (es : List zEnt) (σ : zH) (i1 : Nat) (x2 : Int32) (y3 : zAV) (y4 : zAV) (w31 : Int32) : zev cc_X2_findHarm G 9 krV (zE 23 (.aload_n 0) 1 :: zEf 24 (.getfield 12) 3 2 1 128 (2, 8, 5) :: zEf 27 (.getfield 53) 3 8 12 112 (0, 0, 0) :: zE 30 (.istore_n 3) 1 :: zEk 31 (.iconst 0) 1 w31 :: zE 32 (.istore 4) 2 :: es) σ [vR 2 0, vR 4 i1, vI x2, y3, y4] [] = zev cc_X2_findHarm G 9 krV es σ [vR 2 0, vR 4 i1, vI x2, vI (σ.1 8 5 12), vI w31] [] := rfl
theorem t_X2_findHarm_34 {G : Nat → zH → List zAV → List zAV → Option zH} (es : List zEnt) (σ : zH) (i1 : Nat) (x2 : Int32) (x3 : Int32) (x4 : Int32)   : zev cc_X2_findHarm G 9 krV (zE 34 (.iload 4) 2 :: zE 36 (.aload_n 0) 1 :: zEf 37 (.getfield 28) 3 2 0 127 (2, 8, 0) :: zEf 40 (.getfield 78) 3 8 0 86 (1, 0, 1) :: zEf 43 (.getfield 82) 3 0 5 57 (0, 0, 0) :: es) σ [vR 2 0, vR 4 i1, vI x2, vI x3, vI x4] [] = zev cc_X2_findHarm G 9 krV es σ [vR 2 0, vR 4 i1, vI x2, vI x3, vI x4] [vI (σ.1 0 (0 + 1) 5), vI x4] := rfl
theorem t_X2_findHarm_49 {G : Nat → zH → List zAV → List zAV → Option zH} (es : List zEnt) (σ : zH) (i1 : Nat) (x2 : Int32) (x3 : Int32) (x4 : Int32)   : zev cc_X2_findHarm G 9 krV (zE 49 (.aload_n 0) 1 :: es) σ [vR 2 0, vR 4 i1, vI x2, vI x3, vI x4] [] = zev cc_X2_findHarm G 9 krV es σ [vR 2 0, vR 4 i1, vI x2, vI x3, vI x4] [vR 2 0] := rfl
theorem t_X2_findHarm_53 {G : Nat → zH → List zAV → List zAV → Option zH} (es : List zEnt) (σ : zH) (i1 : Nat) (x2 : Int32) (x3 : Int32) (x4 : Int32)   : zev cc_X2_findHarm G 9 krV (zE 53 (.aload_n 0) 1 :: zEf 54 (.getfield 12) 3 2 1 128 (2, 8, 5) :: zEf 57 (.getfield 78) 3 8 0 86 (1, 0, 1) :: zE 60 (.iload 4) 2 :: es) σ [vR 2 0, vR 4 i1, vI x2, vI x3, vI x4] [] = zev cc_X2_findHarm G 9 krV es σ [vR 2 0, vR 4 i1, vI x2, vI x3, vI x4] [vI x4, vR 0 (5 + 1)] := rfl
theorem t_X2_findHarm_65 {G : Nat → zH → List zAV → List zAV → Option zH} (es : List zEnt) (σ : zH) (i1 : Nat) (x2 : Int32) (x3 : Int32) (x4 : Int32)   : zev cc_X2_findHarm G 9 krV (zE 65 (.aload_n 0) 1 :: zEf 66 (.getfield 12) 3 2 1 128 (2, 8, 5) :: zE 69 (.aload_n 1) 1 :: zE 70 (.iload_n 2) 1 :: es) σ [vR 2 0, vR 4 i1, vI x2, vI x3, vI x4] [] = zev cc_X2_findHarm G 9 krV es σ [vR 2 0, vR 4 i1, vI x2, vI x3, vI x4] [vI x2, vR 4 i1, vR 8 5] := rfl
theorem t_X2_findHarm_74 {G : Nat → zH → List zAV → List zAV → Option zH} (es : List zEnt) (σ : zH) (i1 : Nat) (x2 : Int32) (x3 : Int32) (x4 : Int32)   : zev cc_X2_findHarm G 9 krV (zE 74 (.aload_n 0) 1 :: zEf 75 (.getfield 12) 3 2 1 128 (2, 8, 5) :: zEf 78 (.getfield 53) 3 8 12 112 (0, 0, 0) :: zE 81 (.iload_n 3) 1 :: es) σ [vR 2 0, vR 4 i1, vI x2, vI x3, vI x4] [] = zev cc_X2_findHarm G 9 krV es σ [vR 2 0, vR 4 i1, vI x2, vI x3, vI x4] [vI x3, vI (σ.1 8 5 12)] := rfl
theorem t_X2_findHarm_85 {G : Nat → zH → List zAV → List zAV → Option zH} (es : List zEnt) (σ : zH) (i1 : Nat) (x2 : Int32) (x4 : Int32) (y3 : zAV) (w97 : Int32) : zev cc_X2_findHarm G 9 krV (zE 85 (.aload_n 0) 1 :: zEf 86 (.getfield 12) 3 2 1 128 (2, 8, 5) :: zEf 89 (.getfield 53) 3 8 12 112 (0, 0, 0) :: zE 92 (.istore_n 3) 1 :: zE 93 (.aload_n 0) 1 :: zE 94 (.iload 4) 2 :: zE 96 (.iload_n 3) 1 :: zEk 97 (.bipush (-2)) 2 w97 :: es) σ [vR 2 0, vR 4 i1, vI x2, y3, vI x4] [] = zev cc_X2_findHarm G 9 krV es σ [vR 2 0, vR 4 i1, vI x2, vI (σ.1 8 5 12), vI x4] [vI w97, vI (σ.1 8 5 12), vI x4, vR 2 0] := rfl
theorem t_X2_findHarm_102 {G : Nat → zH → List zAV → List zAV → Option zH} (es : List zEnt) (σ : zH) (i1 : Nat) (x2 : Int32) (x3 : Int32) (x4 : Int32)  (w102 : Int32) : zev cc_X2_findHarm G 9 krV (zEk 102 (.iinc 4 1) 3 w102 :: es) σ [vR 2 0, vR 4 i1, vI x2, vI x3, vI x4] [] = zev cc_X2_findHarm G 9 krV es σ [vR 2 0, vR 4 i1, vI x2, vI x3, vI (x4 + w102)] [] := rfl
noncomputable def k_X2_findHarm_34  : Nat → zH → Nat → Int32 → Int32 → Int32 → Option zH
  | 0, _, _, _, _, _ => none
  | n + 1, σ, i1, x2, x3, x4 =>
    if x4 < (σ.1 0 (0 + 1) 5) then
      (d_X2_restart σ).bind fun σ1 =>
      (d_X0_dropBell σ1 (5 + 1) x4).bind fun σ2 =>
      (d_X8_passQuarters σ2 5 i1 x2).bind fun σ3 =>
      if (σ3.1 8 5 12) < x3 then
        (d_X2_keep σ3 x4 (σ3.1 8 5 12) (-2 : Int32)).bind fun σ4 =>
        (k_X2_findHarm_34 n) σ4 i1 x2 (σ3.1 8 5 12) (x4 + (1 : Int32))
      else
        (k_X2_findHarm_34 n) σ3 i1 x2 x3 (x4 + (1 : Int32))
    else
      some σ
theorem e_X2_findHarm_34  (n : Nat) (σ : zH) (i1 : Nat) (x2 : Int32) (x3 : Int32) (x4 : Int32)  : k_X2_findHarm_34 (n + 1) σ i1 x2 x3 x4 = zin cc_X2_findHarm (fun t => if t = 34 then some (gl_X2_findHarm_34 (k_X2_findHarm_34 n)) else none) 9 krV b_X2_findHarm 34 σ [vR 2 0, vR 4 i1, vI x2, vI x3, vI x4] [] := by
  rw [k_X2_findHarm_34]
  refine Eq.symm ((zin_b (es := q_X2_findHarm_34) rfl).trans ?_)
  refine (t_X2_findHarm_34 _ _ _ _ _ _).trans ?_
  refine x_icmp.trans (pif_ge ?_ ?_)
  · refine (zrun_b (es := q_X2_findHarm_108) rfl rfl).trans ?_
    exact x_vret
  · refine (t_X2_findHarm_49 _ _ _ _ _ _).trans ?_
    refine (x_callV rfl rfl rfl rfl).trans ((cl_X2_findHarm_X2_restart _ _ _).trans ((gr_X2_restart _ _).trans (pbd fun _ => ?_)))
    refine (t_X2_findHarm_53 _ _ _ _ _ _).trans ?_
    refine (x_callV rfl rfl rfl rfl).trans ((cl_X2_findHarm_X0_dropBell _ _ _).trans ((gr_X0_dropBell _ _ _ _).trans (pbd fun _ => ?_)))
    refine (t_X2_findHarm_65 _ _ _ _ _ _).trans ?_
    refine (x_callV rfl rfl rfl rfl).trans ((cl_X2_findHarm_X8_passQuarters _ _ _).trans ((gr_X8_passQuarters _ _ _ _ _).trans (pbd fun _ => ?_)))
    refine (t_X2_findHarm_74 _ _ _ _ _ _).trans ?_
    refine x_icmp.trans (pif_ge ?_ ?_)
    · refine (zrun_b (es := q_X2_findHarm_102) rfl rfl).trans ?_
      refine (t_X2_findHarm_102 _ _ _ _ _ _ _).trans ?_
      refine x_goto.trans ?_
      exact (zrun_c rfl).trans (glr_X2_findHarm_34 _ _ _ _ _ _)
    · refine (t_X2_findHarm_85 _ _ _ _ _ _ _).trans ?_
      refine (x_callV rfl rfl rfl rfl).trans ((cl_X2_findHarm_X2_keep _ _ _).trans ((gr_X2_keep _ _ _ _ _).trans (pbd fun _ => ?_)))
      refine (t_X2_findHarm_102 _ _ _ _ _ _ _).trans ?_
      refine x_goto.trans ?_
      exact (zrun_c rfl).trans (glr_X2_findHarm_34 _ _ _ _ _ _)
theorem s_X2_findHarm_34 {X : zX} (hX : zHX X)   : ∀ n σ L st r, gl_X2_findHarm_34 (k_X2_findHarm_34 n) σ L st = some r → zGW X 21 krV 34 σ L st r := by
  intro n
  induction n with
  | zero =>
    intro σ L st r h
    unfold gl_X2_findHarm_34 at h
    split at h <;> cases h
  | succ n ih =>
    intro σ L st r h
    unfold gl_X2_findHarm_34 at h
    split at h
    · exact zin_ok (hy_X2_findHarm hX) bk_X2_findHarm (fun t f hf => by
      by_cases e34 : t = 34
      · rw [if_pos e34] at hf; subst e34; cases hf; exact ih
      rw [if_neg e34] at hf
      cases hf) ((e_X2_findHarm_34 _ _ _ _ _ _).symm.trans h)
    · cases h
noncomputable def d_X2_findHarm (σ : zH) (ia1 : Nat) (xa2 : Int32) : Option zH :=
  (d_X2_keep σ (-2 : Int32) (-2 : Int32) (-2 : Int32)).bind fun σ1 =>
  (d_X2_restart σ1).bind fun σ2 =>
  (d_X8_passQuarters σ2 5 ia1 xa2).bind fun σ3 =>
  (k_X2_findHarm_34 zN) σ3 ia1 xa2 (σ3.1 8 5 12) (0 : Int32)
theorem e_X2_findHarm (σ : zH) (ia1 : Nat) (xa2 : Int32) : d_X2_findHarm σ ia1 xa2 = zin cc_X2_findHarm (fun t => if t = 34 then some (gl_X2_findHarm_34 (k_X2_findHarm_34 zN)) else none) 9 krV b_X2_findHarm 0 σ [vR 2 0, vR 4 ia1, vI xa2, vU, vU] [] := by
  unfold d_X2_findHarm
  refine Eq.symm ((zin_b (es := q_X2_findHarm_0) rfl).trans ?_)
  refine (t_X2_findHarm_0 _ _ _ _ _ _ _ _ _).trans ?_
  refine (x_callV rfl rfl rfl rfl).trans ((cl_X2_findHarm_X2_keep _ _ _).trans ((gr_X2_keep _ _ _ _ _).trans (pbd fun _ => ?_)))
  refine (t_X2_findHarm_10 _ _ _ _ _ _).trans ?_
  refine (x_callV rfl rfl rfl rfl).trans ((cl_X2_findHarm_X2_restart _ _ _).trans ((gr_X2_restart _ _).trans (pbd fun _ => ?_)))
  refine (t_X2_findHarm_14 _ _ _ _ _ _).trans ?_
  refine (x_callV rfl rfl rfl rfl).trans ((cl_X2_findHarm_X8_passQuarters _ _ _).trans ((gr_X8_passQuarters _ _ _ _ _).trans (pbd fun _ => ?_)))
  refine (t_X2_findHarm_23 _ _ _ _ _ _ _).trans ?_
  refine x_cut.trans ?_
  exact (zrun_c rfl).trans (glr_X2_findHarm_34 _ _ _ _ _ _)
noncomputable def g_X2_findHarm {ρ : Type} (σ : zH) (av : List zAV) (q : zH → zAV → Option ρ) : Option ρ := match av with
  | [.inr (.inr (.inl (2, 0))), .inr (.inr (.inl (4, ia1))), .inl xa2] => (d_X2_findHarm σ ia1 xa2).bind fun σ => q σ vU
  | _ => none
theorem gr_X2_findHarm {ρ : Type} (σ : zH) (ia1 : Nat) (xa2 : Int32) (q : zH → zAV → Option ρ) : g_X2_findHarm σ [vR 2 0, vR 4 ia1, vI xa2] q = (d_X2_findHarm σ ia1 xa2).bind fun σ => q σ vU := rfl
theorem c_X2_findHarm {ρ : Type} {X : zX} (hX : zHX X) {σ : zH} {av : List zAV} {q : zH → zAV → Option ρ} {r : ρ} (h : g_X2_findHarm σ av q = some r) (hv : ∀ a ∈ av, zval X a) : zcon X 21 σ av q r := by
  unfold g_X2_findHarm at h
  split at h
  · exact zcon_V (n := 21) (ml := 5) (rc := 9) (st := 0) (kd := 2) (np := 2) (by decide +kernel) rfl ⟨_, _, rfl, rfl⟩ (Nat.le_of_ble_eq_true rfl) hv h (fun y h1 => (zin_ok (hy_X2_findHarm hX) bk_X2_findHarm (fun t f hf => by
      by_cases e34 : t = 34
      · rw [if_pos e34] at hf; subst e34; cases hf; exact ((fun σ L st r h => s_X2_findHarm_34 hX  zN σ L st r h))
      rw [if_neg e34] at hf
      cases hf) ((e_X2_findHarm _ _ _).symm.trans h1)))
  · cases h
/-! SleepWaves$Forecast.findFair(LSleepWaves$Law;I)V -/
def q_X2_findFair_4 : List zEnt := zE 4 (.aload_n 0) 1 :: zEf 5 (.getfield 28) 3 2 0 127 (2, 8, 0) :: zEf 8 (.getfield 78) 3 8 0 86 (1, 0, 1) :: zEf 11 (.getfield 91) 3 0 0 35 (0, 0, 0) :: zE 14 (.istore_n 3) 1 :: zEk 15 (.iconst 0) 1 0 :: zE 16 (.istore 4) 2 :: [zE 18 .nop 0]
def q_X2_findFair_1 : List zEnt := zEc 1 (.invokevirtual 38) 3 15 1 89 1 :: q_X2_findFair_4
def q_X2_findFair_0 : List zEnt := zE 0 (.aload_n 0) 1 :: q_X2_findFair_1
def q_X2_findFair_35 : List zEnt := zEa 35 (.goto (-17)) 3 18 :: []
def q_X2_findFair_32 : List zEnt := zEk 32 (.iinc 4 1) 3 1 :: q_X2_findFair_35
def q_X2_findFair_31 : List zEnt := zE 31 .iastore 1 :: q_X2_findFair_32
def q_X2_findFair_24 : List zEnt := zE 24 (.aload_n 0) 1 :: zEf 25 (.getfield 21) 3 2 3 130 (2, 21, 0) :: zE 28 (.iload 4) 2 :: zEk 30 (.iconst 0) 1 0 :: q_X2_findFair_31
def q_X2_findFair_21 : List zEnt := zEa 21 (.if_icmp .ge 17) 3 38 :: q_X2_findFair_24
def q_X2_findFair_18 : List zEnt := zE 18 (.iload 4) 2 :: zE 20 (.iload_n 3) 1 :: q_X2_findFair_21
def q_X2_findFair_38 : List zEnt := zEk 38 (.iconst 0) 1 0 :: zE 39 (.istore 4) 2 :: [zE 41 .nop 0]
def q_X2_findFair_56 : List zEnt := zEk 56 (.iconst 0) 1 0 :: zE 57 (.istore 5) 2 :: [zE 59 .nop 0]
def q_X2_findFair_53 : List zEnt := zEc 53 (.invokevirtual 41) 3 82 3 92 1 :: q_X2_findFair_56
def q_X2_findFair_47 : List zEnt := zE 47 (.aload_n 0) 1 :: zEf 48 (.getfield 12) 3 2 1 128 (2, 8, 5) :: zE 51 (.aload_n 1) 1 :: zEk 52 (.iconst 1) 1 1 :: q_X2_findFair_53
def q_X2_findFair_44 : List zEnt := zEa 44 (.if_icmp .ge 60) 3 104 :: q_X2_findFair_47
def q_X2_findFair_41 : List zEnt := zE 41 (.iload 4) 2 :: zE 43 (.iload_n 2) 1 :: q_X2_findFair_44
def q_X2_findFair_86 : List zEnt := zEa 86 (.goto 4) 3 90 :: []
def q_X2_findFair_85 : List zEnt := zEk 85 (.iconst 1) 1 1 :: q_X2_findFair_86
def q_X2_findFair_82 : List zEnt := zEa 82 (.ifCond .eq 7) 3 89 :: q_X2_findFair_85
def q_X2_findFair_79 : List zEnt := zEc 79 (.invokevirtual 94) 3 73 2 112 0 :: q_X2_findFair_82
def q_X2_findFair_73 : List zEnt := zE 73 (.aload_n 0) 1 :: zEf 74 (.getfield 12) 3 2 1 128 (2, 8, 5) :: zE 77 (.iload 5) 2 :: q_X2_findFair_79
def q_X2_findFair_72 : List zEnt := zE 72 .iaload 1 :: q_X2_findFair_73
def q_X2_findFair_65 : List zEnt := zE 65 (.aload_n 0) 1 :: zEf 66 (.getfield 21) 3 2 3 130 (2, 21, 0) :: zE 69 (.iload 5) 2 :: zE 71 .dup2 1 :: q_X2_findFair_72
def q_X2_findFair_62 : List zEnt := zEa 62 (.if_icmp .ge 36) 3 98 :: q_X2_findFair_65
def q_X2_findFair_59 : List zEnt := zE 59 (.iload 5) 2 :: zE 61 (.iload_n 3) 1 :: q_X2_findFair_62
def q_X2_findFair_89 : List zEnt := zEk 89 (.iconst 0) 1 0 :: [zE 90 .nop 0]
def q_X2_findFair_95 : List zEnt := zEa 95 (.goto (-36)) 3 59 :: []
def q_X2_findFair_92 : List zEnt := zEk 92 (.iinc 5 1) 3 1 :: q_X2_findFair_95
def q_X2_findFair_91 : List zEnt := zE 91 .iastore 1 :: q_X2_findFair_92
def q_X2_findFair_90 : List zEnt := zE 90 .iadd 1 :: q_X2_findFair_91
def q_X2_findFair_101 : List zEnt := zEa 101 (.goto (-60)) 3 41 :: []
def q_X2_findFair_98 : List zEnt := zEk 98 (.iinc 4 1) 3 1 :: q_X2_findFair_101
def q_X2_findFair_104 : List zEnt := zEk 104 (.iconst 0) 1 0 :: zE 105 (.istore 4) 2 :: zEk 107 (.iconst 0) 1 0 :: zE 108 (.istore 5) 2 :: zEk 110 (.iconst 1) 1 1 :: zE 111 (.istore 6) 2 :: [zE 113 .nop 0]
def q_X2_findFair_138 : List zEnt := zEa 138 (.goto 5) 3 143 :: []
def q_X2_findFair_136 : List zEnt := zE 136 (.iload 6) 2 :: q_X2_findFair_138
def q_X2_findFair_133 : List zEnt := zEa 133 (.if_icmp .le 8) 3 141 :: q_X2_findFair_136
def q_X2_findFair_132 : List zEnt := zE 132 .iaload 1 :: q_X2_findFair_133
def q_X2_findFair_126 : List zEnt := zE 126 (.aload_n 0) 1 :: zEf 127 (.getfield 21) 3 2 3 130 (2, 21, 0) :: zE 130 (.iload 4) 2 :: q_X2_findFair_132
def q_X2_findFair_125 : List zEnt := zE 125 .iaload 1 :: q_X2_findFair_126
def q_X2_findFair_119 : List zEnt := zE 119 (.aload_n 0) 1 :: zEf 120 (.getfield 21) 3 2 3 130 (2, 21, 0) :: zE 123 (.iload 6) 2 :: q_X2_findFair_125
def q_X2_findFair_116 : List zEnt := zEa 116 (.if_icmp .ge 61) 3 177 :: q_X2_findFair_119
def q_X2_findFair_113 : List zEnt := zE 113 (.iload 6) 2 :: zE 115 (.iload_n 3) 1 :: q_X2_findFair_116
def q_X2_findFair_141 : List zEnt := zE 141 (.iload 4) 2 :: [zE 143 .nop 0]
def q_X2_findFair_164 : List zEnt := zEa 164 (.goto 5) 3 169 :: []
def q_X2_findFair_162 : List zEnt := zE 162 (.iload 6) 2 :: q_X2_findFair_164
def q_X2_findFair_159 : List zEnt := zEa 159 (.if_icmp .ge 8) 3 167 :: q_X2_findFair_162
def q_X2_findFair_158 : List zEnt := zE 158 .iaload 1 :: q_X2_findFair_159
def q_X2_findFair_152 : List zEnt := zE 152 (.aload_n 0) 1 :: zEf 153 (.getfield 21) 3 2 3 130 (2, 21, 0) :: zE 156 (.iload 5) 2 :: q_X2_findFair_158
def q_X2_findFair_151 : List zEnt := zE 151 .iaload 1 :: q_X2_findFair_152
def q_X2_findFair_143 : List zEnt := zE 143 (.istore 4) 2 :: zE 145 (.aload_n 0) 1 :: zEf 146 (.getfield 21) 3 2 3 130 (2, 21, 0) :: zE 149 (.iload 6) 2 :: q_X2_findFair_151
def q_X2_findFair_167 : List zEnt := zE 167 (.iload 5) 2 :: [zE 169 .nop 0]
def q_X2_findFair_174 : List zEnt := zEa 174 (.goto (-61)) 3 113 :: []
def q_X2_findFair_169 : List zEnt := zE 169 (.istore 5) 2 :: zEk 171 (.iinc 6 1) 3 1 :: q_X2_findFair_174
def q_X2_findFair_200 : List zEnt := zE 200 .return_ 1 :: []
def q_X2_findFair_197 : List zEnt := zEc 197 (.invokevirtual 68) 3 16 4 98 1 :: q_X2_findFair_200
def q_X2_findFair_196 : List zEnt := zE 196 .isub 1 :: q_X2_findFair_197
def q_X2_findFair_195 : List zEnt := zE 195 .iaload 1 :: q_X2_findFair_196
def q_X2_findFair_189 : List zEnt := zE 189 (.aload_n 0) 1 :: zEf 190 (.getfield 21) 3 2 3 130 (2, 21, 0) :: zE 193 (.iload 5) 2 :: q_X2_findFair_195
def q_X2_findFair_188 : List zEnt := zE 188 .iaload 1 :: q_X2_findFair_189
def q_X2_findFair_177 : List zEnt := zE 177 (.aload_n 0) 1 :: zE 178 (.iload 4) 2 :: zE 180 (.iload 5) 2 :: zE 182 (.aload_n 0) 1 :: zEf 183 (.getfield 21) 3 2 3 130 (2, 21, 0) :: zE 186 (.iload 4) 2 :: q_X2_findFair_188
def b_X2_findFair : List (Nat × List zEnt) := [(0, q_X2_findFair_0), (18, q_X2_findFair_18), (38, q_X2_findFair_38), (41, q_X2_findFair_41), (59, q_X2_findFair_59), (89, q_X2_findFair_89), (90, q_X2_findFair_90), (98, q_X2_findFair_98), (104, q_X2_findFair_104), (113, q_X2_findFair_113), (141, q_X2_findFair_141), (143, q_X2_findFair_143), (167, q_X2_findFair_167), (169, q_X2_findFair_169), (177, q_X2_findFair_177)]
theorem bk_X2_findFair : zchB 22 b_X2_findFair = true := by decide +kernel
noncomputable def cc_X2_findFair {ρ : Type} : Nat → zH → List zAV → (zH → zAV → Option ρ) → Option ρ := fun n σ av q => if n = 15 then g_X2_restart σ av q else if n = 82 then g_X8_passQuarters σ av q else if n = 73 then g_X8_isAsleep σ av q else if n = 16 then g_X2_keep σ av q else none
theorem cs_X2_findFair {ρ : Type} {X : zX} (hX : zHX X) : zCS X (cc_X2_findFair (ρ := ρ)) := by
  intro n σ av q r h hv
  unfold cc_X2_findFair at h
  by_cases e_X2_restart : n = 15
  · rw [if_pos e_X2_restart] at h
    subst e_X2_restart
    exact c_X2_restart hX h hv
  rw [if_neg e_X2_restart] at h
  by_cases e_X8_passQuarters : n = 82
  · rw [if_pos e_X8_passQuarters] at h
    subst e_X8_passQuarters
    exact c_X8_passQuarters hX h hv
  rw [if_neg e_X8_passQuarters] at h
  by_cases e_X8_isAsleep : n = 73
  · rw [if_pos e_X8_isAsleep] at h
    subst e_X8_isAsleep
    exact c_X8_isAsleep hX h hv
  rw [if_neg e_X8_isAsleep] at h
  by_cases e_X2_keep : n = 16
  · rw [if_pos e_X2_keep] at h
    subst e_X2_keep
    exact c_X2_keep hX h hv
  rw [if_neg e_X2_keep] at h
  cases h
theorem cl_X2_findFair_X2_restart {ρ : Type} (σ : zH) (av : List zAV) (q : zH → zAV → Option ρ) : cc_X2_findFair 15 σ av q = g_X2_restart σ av q := rfl
theorem cl_X2_findFair_X8_passQuarters {ρ : Type} (σ : zH) (av : List zAV) (q : zH → zAV → Option ρ) : cc_X2_findFair 82 σ av q = g_X8_passQuarters σ av q := rfl
theorem cl_X2_findFair_X8_isAsleep {ρ : Type} (σ : zH) (av : List zAV) (q : zH → zAV → Option ρ) : cc_X2_findFair 73 σ av q = g_X8_isAsleep σ av q := rfl
theorem cl_X2_findFair_X2_keep {ρ : Type} (σ : zH) (av : List zAV) (q : zH → zAV → Option ρ) : cc_X2_findFair 16 σ av q = g_X2_keep σ av q := rfl
theorem hy_X2_findFair {ρ : Type} {X : zX} (hX : zHX X) : zHY X 22 (cc_X2_findFair (ρ := ρ)) := zHX.hY hX (cs_X2_findFair hX) (zmok_all 22 (by decide))
def gl_X2_findFair_18 {ρ : Type} (f : zH → Nat → Int32 → Int32 → Int32 → Option ρ) (σ : zH) (L st : List zAV) : Option ρ := match L, st with
  | [.inr (.inr (.inl (2, 0))), .inr (.inr (.inl (4, i1))), .inl x2, .inl x3, .inl x4, _, _], [] => f σ i1 x2 x3 x4
  | _, _ => none
def gl_X2_findFair_38 {ρ : Type} (f : zH → Nat → Int32 → Int32 → Option ρ) (σ : zH) (L st : List zAV) : Option ρ := match L, st with
  | [.inr (.inr (.inl (2, 0))), .inr (.inr (.inl (4, i1))), .inl x2, .inl x3, _, _, _], [] => f σ i1 x2 x3
  | _, _ => none
def gl_X2_findFair_41 {ρ : Type} (f : zH → Nat → Int32 → Int32 → Int32 → Option ρ) (σ : zH) (L st : List zAV) : Option ρ := match L, st with
  | [.inr (.inr (.inl (2, 0))), .inr (.inr (.inl (4, i1))), .inl x2, .inl x3, .inl x4, _, _], [] => f σ i1 x2 x3 x4
  | _, _ => none
def gl_X2_findFair_59 {ρ : Type} (f : zH → Nat → Int32 → Int32 → Int32 → Int32 → Option ρ) (σ : zH) (L st : List zAV) : Option ρ := match L, st with
  | [.inr (.inr (.inl (2, 0))), .inr (.inr (.inl (4, i1))), .inl x2, .inl x3, .inl x4, .inl x5, _], [] => f σ i1 x2 x3 x4 x5
  | _, _ => none
def gl_X2_findFair_90 {ρ : Type} (f : zH → Nat → Int32 → Int32 → Int32 → Int32 → Int32 → Int32 → Int32 → Option ρ) (σ : zH) (L st : List zAV) : Option ρ := match L, st with
  | [.inr (.inr (.inl (2, 0))), .inr (.inr (.inl (4, i1))), .inl x2, .inl x3, .inl x4, .inl x5, _], [.inl xs3, .inl xs2, .inl xs1, .inr (.inr (.inl (21, 0)))] => f σ i1 x2 x3 x4 x5 xs1 xs2 xs3
  | _, _ => none
def gl_X2_findFair_98 {ρ : Type} (f : zH → Nat → Int32 → Int32 → Int32 → Option ρ) (σ : zH) (L st : List zAV) : Option ρ := match L, st with
  | [.inr (.inr (.inl (2, 0))), .inr (.inr (.inl (4, i1))), .inl x2, .inl x3, .inl x4, _, _], [] => f σ i1 x2 x3 x4
  | _, _ => none
def gl_X2_findFair_104 {ρ : Type} (f : zH → Int32 → Option ρ) (σ : zH) (L st : List zAV) : Option ρ := match L, st with
  | [.inr (.inr (.inl (2, 0))), _, _, .inl x3, _, _, _], [] => f σ x3
  | _, _ => none
def gl_X2_findFair_113 {ρ : Type} (f : zH → Int32 → Int32 → Int32 → Int32 → Option ρ) (σ : zH) (L st : List zAV) : Option ρ := match L, st with
  | [.inr (.inr (.inl (2, 0))), _, _, .inl x3, .inl x4, .inl x5, .inl x6], [] => f σ x3 x4 x5 x6
  | _, _ => none
def gl_X2_findFair_143 {ρ : Type} (f : zH → Int32 → Int32 → Int32 → Int32 → Option ρ) (σ : zH) (L st : List zAV) : Option ρ := match L, st with
  | [.inr (.inr (.inl (2, 0))), _, _, .inl x3, _, .inl x5, .inl x6], [.inl xs0] => f σ x3 x5 x6 xs0
  | _, _ => none
def gl_X2_findFair_169 {ρ : Type} (f : zH → Int32 → Int32 → Int32 → Int32 → Option ρ) (σ : zH) (L st : List zAV) : Option ρ := match L, st with
  | [.inr (.inr (.inl (2, 0))), _, _, .inl x3, .inl x4, _, .inl x6], [.inl xs0] => f σ x3 x4 x6 xs0
  | _, _ => none
def gl_X2_findFair_177 {ρ : Type} (f : zH → Int32 → Int32 → Option ρ) (σ : zH) (L st : List zAV) : Option ρ := match L, st with
  | [.inr (.inr (.inl (2, 0))), _, _, _, .inl x4, .inl x5, _], [] => f σ x4 x5
  | _, _ => none
theorem glr_X2_findFair_18 {ρ : Type} (f : zH → Nat → Int32 → Int32 → Int32 → Option ρ) (σ : zH) (i1 : Nat) (x2 : Int32) (x3 : Int32) (x4 : Int32) (y5 : zAV) (y6 : zAV) : gl_X2_findFair_18 f σ [vR 2 0, vR 4 i1, vI x2, vI x3, vI x4, y5, y6] [] = f σ i1 x2 x3 x4 := rfl
theorem glr_X2_findFair_38 {ρ : Type} (f : zH → Nat → Int32 → Int32 → Option ρ) (σ : zH) (i1 : Nat) (x2 : Int32) (x3 : Int32) (y4 : zAV) (y5 : zAV) (y6 : zAV) : gl_X2_findFair_38 f σ [vR 2 0, vR 4 i1, vI x2, vI x3, y4, y5, y6] [] = f σ i1 x2 x3 := rfl
theorem glr_X2_findFair_41 {ρ : Type} (f : zH → Nat → Int32 → Int32 → Int32 → Option ρ) (σ : zH) (i1 : Nat) (x2 : Int32) (x3 : Int32) (x4 : Int32) (y5 : zAV) (y6 : zAV) : gl_X2_findFair_41 f σ [vR 2 0, vR 4 i1, vI x2, vI x3, vI x4, y5, y6] [] = f σ i1 x2 x3 x4 := rfl
theorem glr_X2_findFair_59 {ρ : Type} (f : zH → Nat → Int32 → Int32 → Int32 → Int32 → Option ρ) (σ : zH) (i1 : Nat) (x2 : Int32) (x3 : Int32) (x4 : Int32) (x5 : Int32) (y6 : zAV) : gl_X2_findFair_59 f σ [vR 2 0, vR 4 i1, vI x2, vI x3, vI x4, vI x5, y6] [] = f σ i1 x2 x3 x4 x5 := rfl
theorem glr_X2_findFair_90 {ρ : Type} (f : zH → Nat → Int32 → Int32 → Int32 → Int32 → Int32 → Int32 → Int32 → Option ρ) (σ : zH) (i1 : Nat) (x2 : Int32) (x3 : Int32) (x4 : Int32) (x5 : Int32) (xs1 : Int32) (xs2 : Int32) (xs3 : Int32) (y6 : zAV) : gl_X2_findFair_90 f σ [vR 2 0, vR 4 i1, vI x2, vI x3, vI x4, vI x5, y6] [vI xs3, vI xs2, vI xs1, vR 21 0] = f σ i1 x2 x3 x4 x5 xs1 xs2 xs3 := rfl
theorem glr_X2_findFair_98 {ρ : Type} (f : zH → Nat → Int32 → Int32 → Int32 → Option ρ) (σ : zH) (i1 : Nat) (x2 : Int32) (x3 : Int32) (x4 : Int32) (y5 : zAV) (y6 : zAV) : gl_X2_findFair_98 f σ [vR 2 0, vR 4 i1, vI x2, vI x3, vI x4, y5, y6] [] = f σ i1 x2 x3 x4 := rfl
theorem glr_X2_findFair_104 {ρ : Type} (f : zH → Int32 → Option ρ) (σ : zH) (x3 : Int32) (y1 : zAV) (y2 : zAV) (y4 : zAV) (y5 : zAV) (y6 : zAV) : gl_X2_findFair_104 f σ [vR 2 0, y1, y2, vI x3, y4, y5, y6] [] = f σ x3 := rfl
theorem glr_X2_findFair_113 {ρ : Type} (f : zH → Int32 → Int32 → Int32 → Int32 → Option ρ) (σ : zH) (x3 : Int32) (x4 : Int32) (x5 : Int32) (x6 : Int32) (y1 : zAV) (y2 : zAV) : gl_X2_findFair_113 f σ [vR 2 0, y1, y2, vI x3, vI x4, vI x5, vI x6] [] = f σ x3 x4 x5 x6 := rfl
theorem glr_X2_findFair_143 {ρ : Type} (f : zH → Int32 → Int32 → Int32 → Int32 → Option ρ) (σ : zH) (x3 : Int32) (x5 : Int32) (x6 : Int32) (xs0 : Int32) (y1 : zAV) (y2 : zAV) (y4 : zAV) : gl_X2_findFair_143 f σ [vR 2 0, y1, y2, vI x3, y4, vI x5, vI x6] [vI xs0] = f σ x3 x5 x6 xs0 := rfl
theorem glr_X2_findFair_169 {ρ : Type} (f : zH → Int32 → Int32 → Int32 → Int32 → Option ρ) (σ : zH) (x3 : Int32) (x4 : Int32) (x6 : Int32) (xs0 : Int32) (y1 : zAV) (y2 : zAV) (y5 : zAV) : gl_X2_findFair_169 f σ [vR 2 0, y1, y2, vI x3, vI x4, y5, vI x6] [vI xs0] = f σ x3 x4 x6 xs0 := rfl
theorem glr_X2_findFair_177 {ρ : Type} (f : zH → Int32 → Int32 → Option ρ) (σ : zH) (x4 : Int32) (x5 : Int32) (y1 : zAV) (y2 : zAV) (y3 : zAV) (y6 : zAV) : gl_X2_findFair_177 f σ [vR 2 0, y1, y2, y3, vI x4, vI x5, y6] [] = f σ x4 x5 := rfl
theorem t_X2_findFair_0 {G : Nat → zH → List zAV → List zAV → Option zH} (es : List zEnt) (σ : zH) (i1 : Nat) (x2 : Int32) (y3 : zAV) (y4 : zAV) (y5 : zAV) (y6 : zAV)  : zev cc_X2_findFair G 9 krV (zE 0 (.aload_n 0) 1 :: es) σ [vR 2 0, vR 4 i1, vI x2, y3, y4, y5, y6] [] = zev cc_X2_findFair G 9 krV es σ [vR 2 0, vR 4 i1, vI x2, y3, y4, y5, y6] [vR 2 0] := rfl
theorem t_X2_findFair_4 {G : Nat → zH → List zAV → List zAV → Option zH} (es : List zEnt) (σ : zH) (i1 : Nat) (x2 : Int32) (y3 : zAV) (y4 : zAV) (y5 : zAV) (y6 : zAV) (w15 : Int32) : zev cc_X2_findFair G 9 krV (zE 4 (.aload_n 0) 1 :: zEf 5 (.getfield 28) 3 2 0 127 (2, 8, 0) :: zEf 8 (.getfield 78) 3 8 0 86 (1, 0, 1) :: zEf 11 (.getfield 91) 3 0 0 35 (0, 0, 0) :: zE 14 (.istore_n 3) 1 :: zEk 15 (.iconst 0) 1 w15 :: zE 16 (.istore 4) 2 :: es) σ [vR 2 0, vR 4 i1, vI x2, y3, y4, y5, y6] [] = zev cc_X2_findFair G 9 krV es σ [vR 2 0, vR 4 i1, vI x2, vI (σ.1 0 (0 + 1) 0), vI w15, y5, y6] [] := rfl
theorem t_X2_findFair_18 {G : Nat → zH → List zAV → List zAV → Option zH} (es : List zEnt) (σ : zH) (i1 : Nat) (x2 : Int32) (x3 : Int32) (x4 : Int32) (y5 : zAV) (y6 : zAV)  : zev cc_X2_findFair G 9 krV (zE 18 (.iload 4) 2 :: zE 20 (.iload_n 3) 1 :: es) σ [vR 2 0, vR 4 i1, vI x2, vI x3, vI x4, y5, y6] [] = zev cc_X2_findFair G 9 krV es σ [vR 2 0, vR 4 i1, vI x2, vI x3, vI x4, y5, y6] [vI x3, vI x4] := rfl
theorem t_X2_findFair_24 {G : Nat → zH → List zAV → List zAV → Option zH} (es : List zEnt) (σ : zH) (i1 : Nat) (x2 : Int32) (x3 : Int32) (x4 : Int32) (y5 : zAV) (y6 : zAV) (w30 : Int32) : zev cc_X2_findFair G 9 krV (zE 24 (.aload_n 0) 1 :: zEf 25 (.getfield 21) 3 2 3 130 (2, 21, 0) :: zE 28 (.iload 4) 2 :: zEk 30 (.iconst 0) 1 w30 :: es) σ [vR 2 0, vR 4 i1, vI x2, vI x3, vI x4, y5, y6] [] = zev cc_X2_findFair G 9 krV es σ [vR 2 0, vR 4 i1, vI x2, vI x3, vI x4, y5, y6] [vI w30, vI x4, vR 21 0] := rfl
theorem t_X2_findFair_32 {G : Nat → zH → List zAV → List zAV → Option zH} (es : List zEnt) (σ : zH) (i1 : Nat) (x2 : Int32) (x3 : Int32) (x4 : Int32) (y5 : zAV) (y6 : zAV) (w32 : Int32) : zev cc_X2_findFair G 9 krV (zEk 32 (.iinc 4 1) 3 w32 :: es) σ [vR 2 0, vR 4 i1, vI x2, vI x3, vI x4, y5, y6] [] = zev cc_X2_findFair G 9 krV es σ [vR 2 0, vR 4 i1, vI x2, vI x3, vI (x4 + w32), y5, y6] [] := rfl
theorem t_X2_findFair_38 {G : Nat → zH → List zAV → List zAV → Option zH} (es : List zEnt) (σ : zH) (i1 : Nat) (x2 : Int32) (x3 : Int32) (y4 : zAV) (y5 : zAV) (y6 : zAV) (w38 : Int32) : zev cc_X2_findFair G 9 krV (zEk 38 (.iconst 0) 1 w38 :: zE 39 (.istore 4) 2 :: es) σ [vR 2 0, vR 4 i1, vI x2, vI x3, y4, y5, y6] [] = zev cc_X2_findFair G 9 krV es σ [vR 2 0, vR 4 i1, vI x2, vI x3, vI w38, y5, y6] [] := rfl
theorem t_X2_findFair_41 {G : Nat → zH → List zAV → List zAV → Option zH} (es : List zEnt) (σ : zH) (i1 : Nat) (x2 : Int32) (x3 : Int32) (x4 : Int32) (y5 : zAV) (y6 : zAV)  : zev cc_X2_findFair G 9 krV (zE 41 (.iload 4) 2 :: zE 43 (.iload_n 2) 1 :: es) σ [vR 2 0, vR 4 i1, vI x2, vI x3, vI x4, y5, y6] [] = zev cc_X2_findFair G 9 krV es σ [vR 2 0, vR 4 i1, vI x2, vI x3, vI x4, y5, y6] [vI x2, vI x4] := rfl
theorem t_X2_findFair_47 {G : Nat → zH → List zAV → List zAV → Option zH} (es : List zEnt) (σ : zH) (i1 : Nat) (x2 : Int32) (x3 : Int32) (x4 : Int32) (y5 : zAV) (y6 : zAV) (w52 : Int32) : zev cc_X2_findFair G 9 krV (zE 47 (.aload_n 0) 1 :: zEf 48 (.getfield 12) 3 2 1 128 (2, 8, 5) :: zE 51 (.aload_n 1) 1 :: zEk 52 (.iconst 1) 1 w52 :: es) σ [vR 2 0, vR 4 i1, vI x2, vI x3, vI x4, y5, y6] [] = zev cc_X2_findFair G 9 krV es σ [vR 2 0, vR 4 i1, vI x2, vI x3, vI x4, y5, y6] [vI w52, vR 4 i1, vR 8 5] := rfl
theorem t_X2_findFair_56 {G : Nat → zH → List zAV → List zAV → Option zH} (es : List zEnt) (σ : zH) (i1 : Nat) (x2 : Int32) (x3 : Int32) (x4 : Int32) (y5 : zAV) (y6 : zAV) (w56 : Int32) : zev cc_X2_findFair G 9 krV (zEk 56 (.iconst 0) 1 w56 :: zE 57 (.istore 5) 2 :: es) σ [vR 2 0, vR 4 i1, vI x2, vI x3, vI x4, y5, y6] [] = zev cc_X2_findFair G 9 krV es σ [vR 2 0, vR 4 i1, vI x2, vI x3, vI x4, vI w56, y6] [] := rfl
theorem t_X2_findFair_59 {G : Nat → zH → List zAV → List zAV → Option zH} (es : List zEnt) (σ : zH) (i1 : Nat) (x2 : Int32) (x3 : Int32) (x4 : Int32) (x5 : Int32) (y6 : zAV)  : zev cc_X2_findFair G 9 krV (zE 59 (.iload 5) 2 :: zE 61 (.iload_n 3) 1 :: es) σ [vR 2 0, vR 4 i1, vI x2, vI x3, vI x4, vI x5, y6] [] = zev cc_X2_findFair G 9 krV es σ [vR 2 0, vR 4 i1, vI x2, vI x3, vI x4, vI x5, y6] [vI x3, vI x5] := rfl
theorem t_X2_findFair_65 {G : Nat → zH → List zAV → List zAV → Option zH} (es : List zEnt) (σ : zH) (i1 : Nat) (x2 : Int32) (x3 : Int32) (x4 : Int32) (x5 : Int32) (y6 : zAV)  : zev cc_X2_findFair G 9 krV (zE 65 (.aload_n 0) 1 :: zEf 66 (.getfield 21) 3 2 3 130 (2, 21, 0) :: zE 69 (.iload 5) 2 :: zE 71 .dup2 1 :: es) σ [vR 2 0, vR 4 i1, vI x2, vI x3, vI x4, vI x5, y6] [] = zev cc_X2_findFair G 9 krV es σ [vR 2 0, vR 4 i1, vI x2, vI x3, vI x4, vI x5, y6] [vI x5, vR 21 0, vI x5, vR 21 0] := rfl
theorem t_X2_findFair_73 {G : Nat → zH → List zAV → List zAV → Option zH} (es : List zEnt) (σ : zH) (i1 : Nat) (x2 : Int32) (x3 : Int32) (x4 : Int32) (x5 : Int32) (xs1 : Int32) (xs2 : Int32) (y6 : zAV)  : zev cc_X2_findFair G 9 krV (zE 73 (.aload_n 0) 1 :: zEf 74 (.getfield 12) 3 2 1 128 (2, 8, 5) :: zE 77 (.iload 5) 2 :: es) σ [vR 2 0, vR 4 i1, vI x2, vI x3, vI x4, vI x5, y6] [vI xs2, vI xs1, vR 21 0] = zev cc_X2_findFair G 9 krV es σ [vR 2 0, vR 4 i1, vI x2, vI x3, vI x4, vI x5, y6] [vI x5, vR 8 5, vI xs2, vI xs1, vR 21 0] := rfl
theorem t_X2_findFair_85 {G : Nat → zH → List zAV → List zAV → Option zH} (es : List zEnt) (σ : zH) (i1 : Nat) (x2 : Int32) (x3 : Int32) (x4 : Int32) (x5 : Int32) (xs1 : Int32) (xs2 : Int32) (y6 : zAV) (w85 : Int32) : zev cc_X2_findFair G 9 krV (zEk 85 (.iconst 1) 1 w85 :: es) σ [vR 2 0, vR 4 i1, vI x2, vI x3, vI x4, vI x5, y6] [vI xs2, vI xs1, vR 21 0] = zev cc_X2_findFair G 9 krV es σ [vR 2 0, vR 4 i1, vI x2, vI x3, vI x4, vI x5, y6] [vI w85, vI xs2, vI xs1, vR 21 0] := rfl
theorem t_X2_findFair_89 {G : Nat → zH → List zAV → List zAV → Option zH} (es : List zEnt) (σ : zH) (i1 : Nat) (x2 : Int32) (x3 : Int32) (x4 : Int32) (x5 : Int32) (xs1 : Int32) (xs2 : Int32) (y6 : zAV) (w89 : Int32) : zev cc_X2_findFair G 9 krV (zEk 89 (.iconst 0) 1 w89 :: es) σ [vR 2 0, vR 4 i1, vI x2, vI x3, vI x4, vI x5, y6] [vI xs2, vI xs1, vR 21 0] = zev cc_X2_findFair G 9 krV es σ [vR 2 0, vR 4 i1, vI x2, vI x3, vI x4, vI x5, y6] [vI w89, vI xs2, vI xs1, vR 21 0] := rfl
theorem t_X2_findFair_90 {G : Nat → zH → List zAV → List zAV → Option zH} (es : List zEnt) (σ : zH) (i1 : Nat) (x2 : Int32) (x3 : Int32) (x4 : Int32) (x5 : Int32) (xs1 : Int32) (xs2 : Int32) (xs3 : Int32) (y6 : zAV)  : zev cc_X2_findFair G 9 krV (zE 90 .iadd 1 :: es) σ [vR 2 0, vR 4 i1, vI x2, vI x3, vI x4, vI x5, y6] [vI xs3, vI xs2, vI xs1, vR 21 0] = zev cc_X2_findFair G 9 krV es σ [vR 2 0, vR 4 i1, vI x2, vI x3, vI x4, vI x5, y6] [vI (xs2 + xs3), vI xs1, vR 21 0] := rfl
theorem t_X2_findFair_92 {G : Nat → zH → List zAV → List zAV → Option zH} (es : List zEnt) (σ : zH) (i1 : Nat) (x2 : Int32) (x3 : Int32) (x4 : Int32) (x5 : Int32) (y6 : zAV) (w92 : Int32) : zev cc_X2_findFair G 9 krV (zEk 92 (.iinc 5 1) 3 w92 :: es) σ [vR 2 0, vR 4 i1, vI x2, vI x3, vI x4, vI x5, y6] [] = zev cc_X2_findFair G 9 krV es σ [vR 2 0, vR 4 i1, vI x2, vI x3, vI x4, vI (x5 + w92), y6] [] := rfl
theorem t_X2_findFair_98 {G : Nat → zH → List zAV → List zAV → Option zH} (es : List zEnt) (σ : zH) (i1 : Nat) (x2 : Int32) (x3 : Int32) (x4 : Int32) (y5 : zAV) (y6 : zAV) (w98 : Int32) : zev cc_X2_findFair G 9 krV (zEk 98 (.iinc 4 1) 3 w98 :: es) σ [vR 2 0, vR 4 i1, vI x2, vI x3, vI x4, y5, y6] [] = zev cc_X2_findFair G 9 krV es σ [vR 2 0, vR 4 i1, vI x2, vI x3, vI (x4 + w98), y5, y6] [] := rfl
theorem t_X2_findFair_104 {G : Nat → zH → List zAV → List zAV → Option zH} (es : List zEnt) (σ : zH) (x3 : Int32) (y1 : zAV) (y2 : zAV) (y4 : zAV) (y5 : zAV) (y6 : zAV) (w104 : Int32) (w107 : Int32) (w110 : Int32) : zev cc_X2_findFair G 9 krV (zEk 104 (.iconst 0) 1 w104 :: zE 105 (.istore 4) 2 :: zEk 107 (.iconst 0) 1 w107 :: zE 108 (.istore 5) 2 :: zEk 110 (.iconst 1) 1 w110 :: zE 111 (.istore 6) 2 :: es) σ [vR 2 0, y1, y2, vI x3, y4, y5, y6] [] = zev cc_X2_findFair G 9 krV es σ [vR 2 0, y1, y2, vI x3, vI w104, vI w107, vI w110] [] := rfl
theorem t_X2_findFair_113 {G : Nat → zH → List zAV → List zAV → Option zH} (es : List zEnt) (σ : zH) (x3 : Int32) (x4 : Int32) (x5 : Int32) (x6 : Int32) (y1 : zAV) (y2 : zAV)  : zev cc_X2_findFair G 9 krV (zE 113 (.iload 6) 2 :: zE 115 (.iload_n 3) 1 :: es) σ [vR 2 0, y1, y2, vI x3, vI x4, vI x5, vI x6] [] = zev cc_X2_findFair G 9 krV es σ [vR 2 0, y1, y2, vI x3, vI x4, vI x5, vI x6] [vI x3, vI x6] := rfl
theorem t_X2_findFair_119 {G : Nat → zH → List zAV → List zAV → Option zH} (es : List zEnt) (σ : zH) (x3 : Int32) (x4 : Int32) (x5 : Int32) (x6 : Int32) (y1 : zAV) (y2 : zAV)  : zev cc_X2_findFair G 9 krV (zE 119 (.aload_n 0) 1 :: zEf 120 (.getfield 21) 3 2 3 130 (2, 21, 0) :: zE 123 (.iload 6) 2 :: es) σ [vR 2 0, y1, y2, vI x3, vI x4, vI x5, vI x6] [] = zev cc_X2_findFair G 9 krV es σ [vR 2 0, y1, y2, vI x3, vI x4, vI x5, vI x6] [vI x6, vR 21 0] := rfl
theorem t_X2_findFair_126 {G : Nat → zH → List zAV → List zAV → Option zH} (es : List zEnt) (σ : zH) (x3 : Int32) (x4 : Int32) (x5 : Int32) (x6 : Int32) (xs0 : Int32) (y1 : zAV) (y2 : zAV)  : zev cc_X2_findFair G 9 krV (zE 126 (.aload_n 0) 1 :: zEf 127 (.getfield 21) 3 2 3 130 (2, 21, 0) :: zE 130 (.iload 4) 2 :: es) σ [vR 2 0, y1, y2, vI x3, vI x4, vI x5, vI x6] [vI xs0] = zev cc_X2_findFair G 9 krV es σ [vR 2 0, y1, y2, vI x3, vI x4, vI x5, vI x6] [vI x4, vR 21 0, vI xs0] := rfl
theorem t_X2_findFair_136 {G : Nat → zH → List zAV → List zAV → Option zH} (es : List zEnt) (σ : zH) (x3 : Int32) (x5 : Int32) (x6 : Int32) (y1 : zAV) (y2 : zAV) (y4 : zAV)  : zev cc_X2_findFair G 9 krV (zE 136 (.iload 6) 2 :: es) σ [vR 2 0, y1, y2, vI x3, y4, vI x5, vI x6] [] = zev cc_X2_findFair G 9 krV es σ [vR 2 0, y1, y2, vI x3, y4, vI x5, vI x6] [vI x6] := rfl
theorem t_X2_findFair_141 {G : Nat → zH → List zAV → List zAV → Option zH} (es : List zEnt) (σ : zH) (x3 : Int32) (x4 : Int32) (x5 : Int32) (x6 : Int32) (y1 : zAV) (y2 : zAV)  : zev cc_X2_findFair G 9 krV (zE 141 (.iload 4) 2 :: es) σ [vR 2 0, y1, y2, vI x3, vI x4, vI x5, vI x6] [] = zev cc_X2_findFair G 9 krV es σ [vR 2 0, y1, y2, vI x3, vI x4, vI x5, vI x6] [vI x4] := rfl
theorem t_X2_findFair_143 {G : Nat → zH → List zAV → List zAV → Option zH} (es : List zEnt) (σ : zH) (x3 : Int32) (x5 : Int32) (x6 : Int32) (xs0 : Int32) (y1 : zAV) (y2 : zAV) (y4 : zAV)  : zev cc_X2_findFair G 9 krV (zE 143 (.istore 4) 2 :: zE 145 (.aload_n 0) 1 :: zEf 146 (.getfield 21) 3 2 3 130 (2, 21, 0) :: zE 149 (.iload 6) 2 :: es) σ [vR 2 0, y1, y2, vI x3, y4, vI x5, vI x6] [vI xs0] = zev cc_X2_findFair G 9 krV es σ [vR 2 0, y1, y2, vI x3, vI xs0, vI x5, vI x6] [vI x6, vR 21 0] := rfl
theorem t_X2_findFair_152 {G : Nat → zH → List zAV → List zAV → Option zH} (es : List zEnt) (σ : zH) (x3 : Int32) (x4 : Int32) (x5 : Int32) (x6 : Int32) (xs0 : Int32) (y1 : zAV) (y2 : zAV)  : zev cc_X2_findFair G 9 krV (zE 152 (.aload_n 0) 1 :: zEf 153 (.getfield 21) 3 2 3 130 (2, 21, 0) :: zE 156 (.iload 5) 2 :: es) σ [vR 2 0, y1, y2, vI x3, vI x4, vI x5, vI x6] [vI xs0] = zev cc_X2_findFair G 9 krV es σ [vR 2 0, y1, y2, vI x3, vI x4, vI x5, vI x6] [vI x5, vR 21 0, vI xs0] := rfl
theorem t_X2_findFair_162 {G : Nat → zH → List zAV → List zAV → Option zH} (es : List zEnt) (σ : zH) (x3 : Int32) (x4 : Int32) (x6 : Int32) (y1 : zAV) (y2 : zAV) (y5 : zAV)  : zev cc_X2_findFair G 9 krV (zE 162 (.iload 6) 2 :: es) σ [vR 2 0, y1, y2, vI x3, vI x4, y5, vI x6] [] = zev cc_X2_findFair G 9 krV es σ [vR 2 0, y1, y2, vI x3, vI x4, y5, vI x6] [vI x6] := rfl
theorem t_X2_findFair_167 {G : Nat → zH → List zAV → List zAV → Option zH} (es : List zEnt) (σ : zH) (x3 : Int32) (x4 : Int32) (x5 : Int32) (x6 : Int32) (y1 : zAV) (y2 : zAV)  : zev cc_X2_findFair G 9 krV (zE 167 (.iload 5) 2 :: es) σ [vR 2 0, y1, y2, vI x3, vI x4, vI x5, vI x6] [] = zev cc_X2_findFair G 9 krV es σ [vR 2 0, y1, y2, vI x3, vI x4, vI x5, vI x6] [vI x5] := rfl
theorem t_X2_findFair_169 {G : Nat → zH → List zAV → List zAV → Option zH} (es : List zEnt) (σ : zH) (x3 : Int32) (x4 : Int32) (x6 : Int32) (xs0 : Int32) (y1 : zAV) (y2 : zAV) (y5 : zAV) (w171 : Int32) : zev cc_X2_findFair G 9 krV (zE 169 (.istore 5) 2 :: zEk 171 (.iinc 6 1) 3 w171 :: es) σ [vR 2 0, y1, y2, vI x3, vI x4, y5, vI x6] [vI xs0] = zev cc_X2_findFair G 9 krV es σ [vR 2 0, y1, y2, vI x3, vI x4, vI xs0, vI (x6 + w171)] [] := rfl
theorem t_X2_findFair_177 {G : Nat → zH → List zAV → List zAV → Option zH} (es : List zEnt) (σ : zH) (x4 : Int32) (x5 : Int32) (y1 : zAV) (y2 : zAV) (y3 : zAV) (y6 : zAV)  : zev cc_X2_findFair G 9 krV (zE 177 (.aload_n 0) 1 :: zE 178 (.iload 4) 2 :: zE 180 (.iload 5) 2 :: zE 182 (.aload_n 0) 1 :: zEf 183 (.getfield 21) 3 2 3 130 (2, 21, 0) :: zE 186 (.iload 4) 2 :: es) σ [vR 2 0, y1, y2, y3, vI x4, vI x5, y6] [] = zev cc_X2_findFair G 9 krV es σ [vR 2 0, y1, y2, y3, vI x4, vI x5, y6] [vI x4, vR 21 0, vI x5, vI x4, vR 2 0] := rfl
theorem t_X2_findFair_189 {G : Nat → zH → List zAV → List zAV → Option zH} (es : List zEnt) (σ : zH) (x5 : Int32) (xs1 : Int32) (xs2 : Int32) (xs3 : Int32) (y1 : zAV) (y2 : zAV) (y3 : zAV) (y4 : zAV) (y6 : zAV)  : zev cc_X2_findFair G 9 krV (zE 189 (.aload_n 0) 1 :: zEf 190 (.getfield 21) 3 2 3 130 (2, 21, 0) :: zE 193 (.iload 5) 2 :: es) σ [vR 2 0, y1, y2, y3, y4, vI x5, y6] [vI xs3, vI xs2, vI xs1, vR 2 0] = zev cc_X2_findFair G 9 krV es σ [vR 2 0, y1, y2, y3, y4, vI x5, y6] [vI x5, vR 21 0, vI xs3, vI xs2, vI xs1, vR 2 0] := rfl
theorem t_X2_findFair_196 {G : Nat → zH → List zAV → List zAV → Option zH} (es : List zEnt) (σ : zH) (xs1 : Int32) (xs2 : Int32) (xs3 : Int32) (xs4 : Int32) (y0 : zAV) (y1 : zAV) (y2 : zAV) (y3 : zAV) (y4 : zAV) (y5 : zAV) (y6 : zAV)  : zev cc_X2_findFair G 9 krV (zE 196 .isub 1 :: es) σ [y0, y1, y2, y3, y4, y5, y6] [vI xs4, vI xs3, vI xs2, vI xs1, vR 2 0] = zev cc_X2_findFair G 9 krV es σ [y0, y1, y2, y3, y4, y5, y6] [vI (xs3 - xs4), vI xs2, vI xs1, vR 2 0] := rfl
noncomputable def k_X2_findFair_18 (c38 : zH → Nat → Int32 → Int32 → Option zH) : Nat → zH → Nat → Int32 → Int32 → Int32 → Option zH
  | 0, _, _, _, _, _ => none
  | n + 1, σ, i1, x2, x3, x4 =>
    if x4 < x3 then
      ix x4 12 fun j2 =>
      zlet (uI σ 21 0 j2 (0 : Int32)) fun σ1 =>
      (k_X2_findFair_18 c38 n) σ1 i1 x2 x3 (x4 + (1 : Int32))
    else
      c38 σ i1 x2 x3
theorem e_X2_findFair_18 (c38 : zH → Nat → Int32 → Int32 → Option zH) (n : Nat) (σ : zH) (i1 : Nat) (x2 : Int32) (x3 : Int32) (x4 : Int32) (y5 : zAV) (y6 : zAV) : k_X2_findFair_18 c38 (n + 1) σ i1 x2 x3 x4 = zin cc_X2_findFair (fun t => if t = 18 then some (gl_X2_findFair_18 (k_X2_findFair_18 c38 n)) else if t = 38 then some (gl_X2_findFair_38 c38) else none) 9 krV b_X2_findFair 18 σ [vR 2 0, vR 4 i1, vI x2, vI x3, vI x4, y5, y6] [] := by
  rw [k_X2_findFair_18]
  refine Eq.symm ((zin_b (es := q_X2_findFair_18) rfl).trans ?_)
  refine (t_X2_findFair_18 _ _ _ _ _ _ _ _).trans ?_
  refine x_icmp.trans (pif_ge ?_ ?_)
  · exact (zrun_c rfl).trans (glr_X2_findFair_38 _ _ _ _ _ _ _ _)
  · refine (t_X2_findFair_24 _ _ _ _ _ _ _ _ _).trans ?_
    refine (x_iast (N := 12) rfl rfl).trans (pix fun _ => plt fun _ => ?_)
    refine (t_X2_findFair_32 _ _ _ _ _ _ _ _ _).trans ?_
    refine x_goto.trans ?_
    exact (zrun_c rfl).trans (glr_X2_findFair_18 _ _ _ _ _ _ _ _)
theorem s_X2_findFair_18 {X : zX} (hX : zHX X) {c38 : zH → Nat → Int32 → Int32 → Option zH} (h38 : ∀ σ L st r, gl_X2_findFair_38 c38 σ L st = some r → zGW X 22 krV 38 σ L st r) : ∀ n σ L st r, gl_X2_findFair_18 (k_X2_findFair_18 c38 n) σ L st = some r → zGW X 22 krV 18 σ L st r := by
  intro n
  induction n with
  | zero =>
    intro σ L st r h
    unfold gl_X2_findFair_18 at h
    split at h <;> cases h
  | succ n ih =>
    intro σ L st r h
    unfold gl_X2_findFair_18 at h
    split at h
    · exact zin_ok (hy_X2_findFair hX) bk_X2_findFair (fun t f hf => by
      by_cases e18 : t = 18
      · rw [if_pos e18] at hf; subst e18; cases hf; exact ih
      rw [if_neg e18] at hf
      by_cases e38 : t = 38
      · rw [if_pos e38] at hf; subst e38; cases hf; exact h38
      rw [if_neg e38] at hf
      cases hf) ((e_X2_findFair_18 _ _ _ _ _ _ _ _ _).symm.trans h)
    · cases h
noncomputable def j_X2_findFair_90 (c59 : zH → Nat → Int32 → Int32 → Int32 → Int32 → Option zH) (σ : zH) (i1 : Nat) (x2 : Int32) (x3 : Int32) (x4 : Int32) (x5 : Int32) (xs1 : Int32) (xs2 : Int32) (xs3 : Int32) : Option zH :=
  ix xs1 12 fun j2 =>
  zlet (uI σ 21 0 j2 (xs2 + xs3)) fun σ1 =>
  c59 σ1 i1 x2 x3 x4 (x5 + (1 : Int32))
theorem e_X2_findFair_90 (c59 : zH → Nat → Int32 → Int32 → Int32 → Int32 → Option zH) (σ : zH) (i1 : Nat) (x2 : Int32) (x3 : Int32) (x4 : Int32) (x5 : Int32) (xs1 : Int32) (xs2 : Int32) (xs3 : Int32) (y6 : zAV) : j_X2_findFair_90 c59 σ i1 x2 x3 x4 x5 xs1 xs2 xs3 = zin cc_X2_findFair (fun t => if t = 59 then some (gl_X2_findFair_59 c59) else none) 9 krV b_X2_findFair 90 σ [vR 2 0, vR 4 i1, vI x2, vI x3, vI x4, vI x5, y6] [vI xs3, vI xs2, vI xs1, vR 21 0] := by
  unfold j_X2_findFair_90
  refine Eq.symm ((zin_b (es := q_X2_findFair_90) rfl).trans ?_)
  refine (t_X2_findFair_90 _ _ _ _ _ _ _ _ _ _ _).trans ?_
  refine (x_iast (N := 12) rfl rfl).trans (pix fun _ => plt fun _ => ?_)
  refine (t_X2_findFair_92 _ _ _ _ _ _ _ _ _).trans ?_
  refine x_goto.trans ?_
  exact (zrun_c rfl).trans (glr_X2_findFair_59 _ _ _ _ _ _ _ _)
theorem s_X2_findFair_90 {X : zX} (hX : zHX X) {c59 : zH → Nat → Int32 → Int32 → Int32 → Int32 → Option zH} (h59 : ∀ σ L st r, gl_X2_findFair_59 c59 σ L st = some r → zGW X 22 krV 59 σ L st r) : ∀ σ L st r, gl_X2_findFair_90 (j_X2_findFair_90 c59) σ L st = some r → zGW X 22 krV 90 σ L st r := by
  intro σ L st r h
  unfold gl_X2_findFair_90 at h
  split at h
  · exact zin_ok (hy_X2_findFair hX) bk_X2_findFair (fun t f hf => by
    by_cases e59 : t = 59
    · rw [if_pos e59] at hf; subst e59; cases hf; exact h59
    rw [if_neg e59] at hf
    cases hf) ((e_X2_findFair_90 _ _ _ _ _ _ _ _ _ _ _).symm.trans h)
  · cases h
noncomputable def k_X2_findFair_59 (c98 : zH → Nat → Int32 → Int32 → Int32 → Option zH) : Nat → zH → Nat → Int32 → Int32 → Int32 → Int32 → Option zH
  | 0, _, _, _, _, _, _ => none
  | n + 1, σ, i1, x2, x3, x4, x5 =>
    if x5 < x3 then
      ix x5 12 fun j1 =>
      (d_X8_isAsleep σ 5 x5).bind fun p2 =>
      if p2.2 = 0 then
        (j_X2_findFair_90 (k_X2_findFair_59 c98 n)) p2.1 i1 x2 x3 x4 x5 x5 (σ.1 21 0 j1) (0 : Int32)
      else
        (j_X2_findFair_90 (k_X2_findFair_59 c98 n)) p2.1 i1 x2 x3 x4 x5 x5 (σ.1 21 0 j1) (1 : Int32)
    else
      c98 σ i1 x2 x3 x4
theorem e_X2_findFair_59 (c98 : zH → Nat → Int32 → Int32 → Int32 → Option zH) (n : Nat) (σ : zH) (i1 : Nat) (x2 : Int32) (x3 : Int32) (x4 : Int32) (x5 : Int32) (y6 : zAV) : k_X2_findFair_59 c98 (n + 1) σ i1 x2 x3 x4 x5 = zin cc_X2_findFair (fun t => if t = 90 then some (gl_X2_findFair_90 (j_X2_findFair_90 (k_X2_findFair_59 c98 n))) else if t = 98 then some (gl_X2_findFair_98 c98) else none) 9 krV b_X2_findFair 59 σ [vR 2 0, vR 4 i1, vI x2, vI x3, vI x4, vI x5, y6] [] := by
  rw [k_X2_findFair_59]
  refine Eq.symm ((zin_b (es := q_X2_findFair_59) rfl).trans ?_)
  refine (t_X2_findFair_59 _ _ _ _ _ _ _ _).trans ?_
  refine x_icmp.trans (pif_ge ?_ ?_)
  · exact (zrun_c rfl).trans (glr_X2_findFair_98 _ _ _ _ _ _ _ _)
  · refine (t_X2_findFair_65 _ _ _ _ _ _ _ _).trans ?_
    refine (x_iald (N := 12) rfl rfl).trans (pix fun _ => ?_)
    refine (t_X2_findFair_73 _ _ _ _ _ _ _ _ _ _).trans ?_
    refine (x_callV rfl rfl rfl rfl).trans ((cl_X2_findFair_X8_isAsleep _ _ _).trans ((gr_X8_isAsleep _ _ _ _).trans (pbd fun _ => ?_)))
    refine x_if.trans (pif_eq ?_ ?_)
    · refine (zrun_b (es := q_X2_findFair_89) rfl rfl).trans ?_
      refine (t_X2_findFair_89 _ _ _ _ _ _ _ _ _ _ _).trans ?_
      refine x_cut.trans ?_
      exact (zrun_c rfl).trans (glr_X2_findFair_90 _ _ _ _ _ _ _ _ _ _ _)
    · refine (t_X2_findFair_85 _ _ _ _ _ _ _ _ _ _ _).trans ?_
      refine x_goto.trans ?_
      exact (zrun_c rfl).trans (glr_X2_findFair_90 _ _ _ _ _ _ _ _ _ _ _)
theorem s_X2_findFair_59 {X : zX} (hX : zHX X) {c98 : zH → Nat → Int32 → Int32 → Int32 → Option zH} (h98 : ∀ σ L st r, gl_X2_findFair_98 c98 σ L st = some r → zGW X 22 krV 98 σ L st r) : ∀ n σ L st r, gl_X2_findFair_59 (k_X2_findFair_59 c98 n) σ L st = some r → zGW X 22 krV 59 σ L st r := by
  intro n
  induction n with
  | zero =>
    intro σ L st r h
    unfold gl_X2_findFair_59 at h
    split at h <;> cases h
  | succ n ih =>
    intro σ L st r h
    unfold gl_X2_findFair_59 at h
    split at h
    · exact zin_ok (hy_X2_findFair hX) bk_X2_findFair (fun t f hf => by
      by_cases e90 : t = 90
      · rw [if_pos e90] at hf; subst e90; cases hf; exact (s_X2_findFair_90 hX ih)
      rw [if_neg e90] at hf
      by_cases e98 : t = 98
      · rw [if_pos e98] at hf; subst e98; cases hf; exact h98
      rw [if_neg e98] at hf
      cases hf) ((e_X2_findFair_59 _ _ _ _ _ _ _ _ _).symm.trans h)
    · cases h
noncomputable def j_X2_findFair_98 (c41 : zH → Nat → Int32 → Int32 → Int32 → Option zH) (σ : zH) (i1 : Nat) (x2 : Int32) (x3 : Int32) (x4 : Int32) : Option zH :=
  c41 σ i1 x2 x3 (x4 + (1 : Int32))
theorem e_X2_findFair_98 (c41 : zH → Nat → Int32 → Int32 → Int32 → Option zH) (σ : zH) (i1 : Nat) (x2 : Int32) (x3 : Int32) (x4 : Int32) (y5 : zAV) (y6 : zAV) : j_X2_findFair_98 c41 σ i1 x2 x3 x4 = zin cc_X2_findFair (fun t => if t = 41 then some (gl_X2_findFair_41 c41) else none) 9 krV b_X2_findFair 98 σ [vR 2 0, vR 4 i1, vI x2, vI x3, vI x4, y5, y6] [] := by
  unfold j_X2_findFair_98
  refine Eq.symm ((zin_b (es := q_X2_findFair_98) rfl).trans ?_)
  refine (t_X2_findFair_98 _ _ _ _ _ _ _ _ _).trans ?_
  refine x_goto.trans ?_
  exact (zrun_c rfl).trans (glr_X2_findFair_41 _ _ _ _ _ _ _ _)
theorem s_X2_findFair_98 {X : zX} (hX : zHX X) {c41 : zH → Nat → Int32 → Int32 → Int32 → Option zH} (h41 : ∀ σ L st r, gl_X2_findFair_41 c41 σ L st = some r → zGW X 22 krV 41 σ L st r) : ∀ σ L st r, gl_X2_findFair_98 (j_X2_findFair_98 c41) σ L st = some r → zGW X 22 krV 98 σ L st r := by
  intro σ L st r h
  unfold gl_X2_findFair_98 at h
  split at h
  · exact zin_ok (hy_X2_findFair hX) bk_X2_findFair (fun t f hf => by
    by_cases e41 : t = 41
    · rw [if_pos e41] at hf; subst e41; cases hf; exact h41
    rw [if_neg e41] at hf
    cases hf) ((e_X2_findFair_98 _ _ _ _ _ _ _ _).symm.trans h)
  · cases h
noncomputable def k_X2_findFair_41 (c104 : zH → Int32 → Option zH) : Nat → zH → Nat → Int32 → Int32 → Int32 → Option zH
  | 0, _, _, _, _, _ => none
  | n + 1, σ, i1, x2, x3, x4 =>
    if x4 < x2 then
      (d_X8_passQuarters σ 5 i1 (1 : Int32)).bind fun σ1 =>
      (k_X2_findFair_59 (j_X2_findFair_98 (k_X2_findFair_41 c104 n)) zN) σ1 i1 x2 x3 x4 (0 : Int32)
    else
      c104 σ x3
theorem e_X2_findFair_41 (c104 : zH → Int32 → Option zH) (n : Nat) (σ : zH) (i1 : Nat) (x2 : Int32) (x3 : Int32) (x4 : Int32) (y5 : zAV) (y6 : zAV) : k_X2_findFair_41 c104 (n + 1) σ i1 x2 x3 x4 = zin cc_X2_findFair (fun t => if t = 59 then some (gl_X2_findFair_59 (k_X2_findFair_59 (j_X2_findFair_98 (k_X2_findFair_41 c104 n)) zN)) else if t = 104 then some (gl_X2_findFair_104 c104) else none) 9 krV b_X2_findFair 41 σ [vR 2 0, vR 4 i1, vI x2, vI x3, vI x4, y5, y6] [] := by
  rw [k_X2_findFair_41]
  refine Eq.symm ((zin_b (es := q_X2_findFair_41) rfl).trans ?_)
  refine (t_X2_findFair_41 _ _ _ _ _ _ _ _).trans ?_
  refine x_icmp.trans (pif_ge ?_ ?_)
  · exact (zrun_c rfl).trans (glr_X2_findFair_104 _ _ _ _ _ _ _ _)
  · refine (t_X2_findFair_47 _ _ _ _ _ _ _ _ _).trans ?_
    refine (x_callV rfl rfl rfl rfl).trans ((cl_X2_findFair_X8_passQuarters _ _ _).trans ((gr_X8_passQuarters _ _ _ _ _).trans (pbd fun _ => ?_)))
    refine (t_X2_findFair_56 _ _ _ _ _ _ _ _ _).trans ?_
    refine x_cut.trans ?_
    exact (zrun_c rfl).trans (glr_X2_findFair_59 _ _ _ _ _ _ _ _)
theorem s_X2_findFair_41 {X : zX} (hX : zHX X) {c104 : zH → Int32 → Option zH} (h104 : ∀ σ L st r, gl_X2_findFair_104 c104 σ L st = some r → zGW X 22 krV 104 σ L st r) : ∀ n σ L st r, gl_X2_findFair_41 (k_X2_findFair_41 c104 n) σ L st = some r → zGW X 22 krV 41 σ L st r := by
  intro n
  induction n with
  | zero =>
    intro σ L st r h
    unfold gl_X2_findFair_41 at h
    split at h <;> cases h
  | succ n ih =>
    intro σ L st r h
    unfold gl_X2_findFair_41 at h
    split at h
    · exact zin_ok (hy_X2_findFair hX) bk_X2_findFair (fun t f hf => by
      by_cases e59 : t = 59
      · rw [if_pos e59] at hf; subst e59; cases hf; exact ((fun σ L st r h => s_X2_findFair_59 hX (s_X2_findFair_98 hX ih) zN σ L st r h))
      rw [if_neg e59] at hf
      by_cases e104 : t = 104
      · rw [if_pos e104] at hf; subst e104; cases hf; exact h104
      rw [if_neg e104] at hf
      cases hf) ((e_X2_findFair_41 _ _ _ _ _ _ _ _ _).symm.trans h)
    · cases h
noncomputable def j_X2_findFair_169 (c113 : zH → Int32 → Int32 → Int32 → Int32 → Option zH) (σ : zH) (x3 : Int32) (x4 : Int32) (x6 : Int32) (xs0 : Int32) : Option zH :=
  c113 σ x3 x4 xs0 (x6 + (1 : Int32))
theorem e_X2_findFair_169 (c113 : zH → Int32 → Int32 → Int32 → Int32 → Option zH) (σ : zH) (x3 : Int32) (x4 : Int32) (x6 : Int32) (xs0 : Int32) (y1 : zAV) (y2 : zAV) (y5 : zAV) : j_X2_findFair_169 c113 σ x3 x4 x6 xs0 = zin cc_X2_findFair (fun t => if t = 113 then some (gl_X2_findFair_113 c113) else none) 9 krV b_X2_findFair 169 σ [vR 2 0, y1, y2, vI x3, vI x4, y5, vI x6] [vI xs0] := by
  unfold j_X2_findFair_169
  refine Eq.symm ((zin_b (es := q_X2_findFair_169) rfl).trans ?_)
  refine (t_X2_findFair_169 _ _ _ _ _ _ _ _ _ _).trans ?_
  refine x_goto.trans ?_
  exact (zrun_c rfl).trans (glr_X2_findFair_113 _ _ _ _ _ _ _ _)
theorem s_X2_findFair_169 {X : zX} (hX : zHX X) {c113 : zH → Int32 → Int32 → Int32 → Int32 → Option zH} (h113 : ∀ σ L st r, gl_X2_findFair_113 c113 σ L st = some r → zGW X 22 krV 113 σ L st r) : ∀ σ L st r, gl_X2_findFair_169 (j_X2_findFair_169 c113) σ L st = some r → zGW X 22 krV 169 σ L st r := by
  intro σ L st r h
  unfold gl_X2_findFair_169 at h
  split at h
  · exact zin_ok (hy_X2_findFair hX) bk_X2_findFair (fun t f hf => by
    by_cases e113 : t = 113
    · rw [if_pos e113] at hf; subst e113; cases hf; exact h113
    rw [if_neg e113] at hf
    cases hf) ((e_X2_findFair_169 _ _ _ _ _ _ _ _ _).symm.trans h)
  · cases h
noncomputable def j_X2_findFair_143 (c113 : zH → Int32 → Int32 → Int32 → Int32 → Option zH) (σ : zH) (x3 : Int32) (x5 : Int32) (x6 : Int32) (xs0 : Int32) : Option zH :=
  ix x6 12 fun j1 =>
  ix x5 12 fun j2 =>
  if (σ.1 21 0 j1) < (σ.1 21 0 j2) then
    (j_X2_findFair_169 c113) σ x3 xs0 x6 x6
  else
    (j_X2_findFair_169 c113) σ x3 xs0 x6 x5
theorem e_X2_findFair_143 (c113 : zH → Int32 → Int32 → Int32 → Int32 → Option zH) (σ : zH) (x3 : Int32) (x5 : Int32) (x6 : Int32) (xs0 : Int32) (y1 : zAV) (y2 : zAV) (y4 : zAV) : j_X2_findFair_143 c113 σ x3 x5 x6 xs0 = zin cc_X2_findFair (fun t => if t = 169 then some (gl_X2_findFair_169 (j_X2_findFair_169 c113)) else none) 9 krV b_X2_findFair 143 σ [vR 2 0, y1, y2, vI x3, y4, vI x5, vI x6] [vI xs0] := by
  unfold j_X2_findFair_143
  refine Eq.symm ((zin_b (es := q_X2_findFair_143) rfl).trans ?_)
  refine (t_X2_findFair_143 _ _ _ _ _ _ _ _ _).trans ?_
  refine (x_iald (N := 12) rfl rfl).trans (pix fun _ => ?_)
  refine (t_X2_findFair_152 _ _ _ _ _ _ _ _ _).trans ?_
  refine (x_iald (N := 12) rfl rfl).trans (pix fun _ => ?_)
  refine x_icmp.trans (pif_ge ?_ ?_)
  · refine (zrun_b (es := q_X2_findFair_167) rfl rfl).trans ?_
    refine (t_X2_findFair_167 _ _ _ _ _ _ _ _).trans ?_
    refine x_cut.trans ?_
    exact (zrun_c rfl).trans (glr_X2_findFair_169 _ _ _ _ _ _ _ _ _)
  · refine (t_X2_findFair_162 _ _ _ _ _ _ _ _).trans ?_
    refine x_goto.trans ?_
    exact (zrun_c rfl).trans (glr_X2_findFair_169 _ _ _ _ _ _ _ _ _)
theorem s_X2_findFair_143 {X : zX} (hX : zHX X) {c113 : zH → Int32 → Int32 → Int32 → Int32 → Option zH} (h113 : ∀ σ L st r, gl_X2_findFair_113 c113 σ L st = some r → zGW X 22 krV 113 σ L st r) : ∀ σ L st r, gl_X2_findFair_143 (j_X2_findFair_143 c113) σ L st = some r → zGW X 22 krV 143 σ L st r := by
  intro σ L st r h
  unfold gl_X2_findFair_143 at h
  split at h
  · exact zin_ok (hy_X2_findFair hX) bk_X2_findFair (fun t f hf => by
    by_cases e169 : t = 169
    · rw [if_pos e169] at hf; subst e169; cases hf; exact (s_X2_findFair_169 hX h113)
    rw [if_neg e169] at hf
    cases hf) ((e_X2_findFair_143 _ _ _ _ _ _ _ _ _).symm.trans h)
  · cases h
noncomputable def k_X2_findFair_113 (c177 : zH → Int32 → Int32 → Option zH) : Nat → zH → Int32 → Int32 → Int32 → Int32 → Option zH
  | 0, _, _, _, _, _ => none
  | n + 1, σ, x3, x4, x5, x6 =>
    if x6 < x3 then
      ix x6 12 fun j1 =>
      ix x4 12 fun j2 =>
      if (σ.1 21 0 j2) < (σ.1 21 0 j1) then
        (j_X2_findFair_143 (k_X2_findFair_113 c177 n)) σ x3 x5 x6 x6
      else
        (j_X2_findFair_143 (k_X2_findFair_113 c177 n)) σ x3 x5 x6 x4
    else
      c177 σ x4 x5
theorem e_X2_findFair_113 (c177 : zH → Int32 → Int32 → Option zH) (n : Nat) (σ : zH) (x3 : Int32) (x4 : Int32) (x5 : Int32) (x6 : Int32) (y1 : zAV) (y2 : zAV) : k_X2_findFair_113 c177 (n + 1) σ x3 x4 x5 x6 = zin cc_X2_findFair (fun t => if t = 143 then some (gl_X2_findFair_143 (j_X2_findFair_143 (k_X2_findFair_113 c177 n))) else if t = 177 then some (gl_X2_findFair_177 c177) else none) 9 krV b_X2_findFair 113 σ [vR 2 0, y1, y2, vI x3, vI x4, vI x5, vI x6] [] := by
  rw [k_X2_findFair_113]
  refine Eq.symm ((zin_b (es := q_X2_findFair_113) rfl).trans ?_)
  refine (t_X2_findFair_113 _ _ _ _ _ _ _ _).trans ?_
  refine x_icmp.trans (pif_ge ?_ ?_)
  · exact (zrun_c rfl).trans (glr_X2_findFair_177 _ _ _ _ _ _ _ _)
  · refine (t_X2_findFair_119 _ _ _ _ _ _ _ _).trans ?_
    refine (x_iald (N := 12) rfl rfl).trans (pix fun _ => ?_)
    refine (t_X2_findFair_126 _ _ _ _ _ _ _ _ _).trans ?_
    refine (x_iald (N := 12) rfl rfl).trans (pix fun _ => ?_)
    refine x_icmp.trans (pif_le ?_ ?_)
    · refine (zrun_b (es := q_X2_findFair_141) rfl rfl).trans ?_
      refine (t_X2_findFair_141 _ _ _ _ _ _ _ _).trans ?_
      refine x_cut.trans ?_
      exact (zrun_c rfl).trans (glr_X2_findFair_143 _ _ _ _ _ _ _ _ _)
    · refine (t_X2_findFair_136 _ _ _ _ _ _ _ _).trans ?_
      refine x_goto.trans ?_
      exact (zrun_c rfl).trans (glr_X2_findFair_143 _ _ _ _ _ _ _ _ _)
theorem s_X2_findFair_113 {X : zX} (hX : zHX X) {c177 : zH → Int32 → Int32 → Option zH} (h177 : ∀ σ L st r, gl_X2_findFair_177 c177 σ L st = some r → zGW X 22 krV 177 σ L st r) : ∀ n σ L st r, gl_X2_findFair_113 (k_X2_findFair_113 c177 n) σ L st = some r → zGW X 22 krV 113 σ L st r := by
  intro n
  induction n with
  | zero =>
    intro σ L st r h
    unfold gl_X2_findFair_113 at h
    split at h <;> cases h
  | succ n ih =>
    intro σ L st r h
    unfold gl_X2_findFair_113 at h
    split at h
    · exact zin_ok (hy_X2_findFair hX) bk_X2_findFair (fun t f hf => by
      by_cases e143 : t = 143
      · rw [if_pos e143] at hf; subst e143; cases hf; exact (s_X2_findFair_143 hX ih)
      rw [if_neg e143] at hf
      by_cases e177 : t = 177
      · rw [if_pos e177] at hf; subst e177; cases hf; exact h177
      rw [if_neg e177] at hf
      cases hf) ((e_X2_findFair_113 _ _ _ _ _ _ _ _ _).symm.trans h)
    · cases h
noncomputable def j_X2_findFair_177  (σ : zH) (x4 : Int32) (x5 : Int32) : Option zH :=
  ix x4 12 fun j1 =>
  ix x5 12 fun j2 =>
  (d_X2_keep σ x4 x5 ((σ.1 21 0 j1) - (σ.1 21 0 j2))).bind fun σ3 =>
  some σ3
theorem e_X2_findFair_177  (σ : zH) (x4 : Int32) (x5 : Int32) (y1 : zAV) (y2 : zAV) (y3 : zAV) (y6 : zAV) : j_X2_findFair_177 σ x4 x5 = zin cc_X2_findFair (fun t => none) 9 krV b_X2_findFair 177 σ [vR 2 0, y1, y2, y3, vI x4, vI x5, y6] [] := by
  unfold j_X2_findFair_177
  refine Eq.symm ((zin_b (es := q_X2_findFair_177) rfl).trans ?_)
  refine (t_X2_findFair_177 _ _ _ _ _ _ _ _).trans ?_
  refine (x_iald (N := 12) rfl rfl).trans (pix fun _ => ?_)
  refine (t_X2_findFair_189 _ _ _ _ _ _ _ _ _ _ _).trans ?_
  refine (x_iald (N := 12) rfl rfl).trans (pix fun _ => ?_)
  refine (t_X2_findFair_196 _ _ _ _ _ _ _ _ _ _ _ _ _).trans ?_
  refine (x_callV rfl rfl rfl rfl).trans ((cl_X2_findFair_X2_keep _ _ _).trans ((gr_X2_keep _ _ _ _ _).trans (pbd fun _ => ?_)))
  exact x_vret
theorem s_X2_findFair_177 {X : zX} (hX : zHX X)   : ∀ σ L st r, gl_X2_findFair_177 j_X2_findFair_177 σ L st = some r → zGW X 22 krV 177 σ L st r := by
  intro σ L st r h
  unfold gl_X2_findFair_177 at h
  split at h
  · exact zin_ok (hy_X2_findFair hX) bk_X2_findFair (fun t f hf => by
    cases hf) ((e_X2_findFair_177 _ _ _ _ _ _ _).symm.trans h)
  · cases h
noncomputable def j_X2_findFair_104  (σ : zH) (x3 : Int32) : Option zH :=
  (k_X2_findFair_113 j_X2_findFair_177 zN) σ x3 (0 : Int32) (0 : Int32) (1 : Int32)
theorem e_X2_findFair_104  (σ : zH) (x3 : Int32) (y1 : zAV) (y2 : zAV) (y4 : zAV) (y5 : zAV) (y6 : zAV) : j_X2_findFair_104 σ x3 = zin cc_X2_findFair (fun t => if t = 113 then some (gl_X2_findFair_113 (k_X2_findFair_113 j_X2_findFair_177 zN)) else none) 9 krV b_X2_findFair 104 σ [vR 2 0, y1, y2, vI x3, y4, y5, y6] [] := by
  unfold j_X2_findFair_104
  refine Eq.symm ((zin_b (es := q_X2_findFair_104) rfl).trans ?_)
  refine (t_X2_findFair_104 _ _ _ _ _ _ _ _ _ _ _).trans ?_
  refine x_cut.trans ?_
  exact (zrun_c rfl).trans (glr_X2_findFair_113 _ _ _ _ _ _ _ _)
theorem s_X2_findFair_104 {X : zX} (hX : zHX X)   : ∀ σ L st r, gl_X2_findFair_104 j_X2_findFair_104 σ L st = some r → zGW X 22 krV 104 σ L st r := by
  intro σ L st r h
  unfold gl_X2_findFair_104 at h
  split at h
  · exact zin_ok (hy_X2_findFair hX) bk_X2_findFair (fun t f hf => by
    by_cases e113 : t = 113
    · rw [if_pos e113] at hf; subst e113; cases hf; exact ((fun σ L st r h => s_X2_findFair_113 hX (s_X2_findFair_177 hX) zN σ L st r h))
    rw [if_neg e113] at hf
    cases hf) ((e_X2_findFair_104 _ _ _ _ _ _ _).symm.trans h)
  · cases h
noncomputable def j_X2_findFair_38  (σ : zH) (i1 : Nat) (x2 : Int32) (x3 : Int32) : Option zH :=
  (k_X2_findFair_41 j_X2_findFair_104 zN) σ i1 x2 x3 (0 : Int32)
theorem e_X2_findFair_38  (σ : zH) (i1 : Nat) (x2 : Int32) (x3 : Int32) (y4 : zAV) (y5 : zAV) (y6 : zAV) : j_X2_findFair_38 σ i1 x2 x3 = zin cc_X2_findFair (fun t => if t = 41 then some (gl_X2_findFair_41 (k_X2_findFair_41 j_X2_findFair_104 zN)) else none) 9 krV b_X2_findFair 38 σ [vR 2 0, vR 4 i1, vI x2, vI x3, y4, y5, y6] [] := by
  unfold j_X2_findFair_38
  refine Eq.symm ((zin_b (es := q_X2_findFair_38) rfl).trans ?_)
  refine (t_X2_findFair_38 _ _ _ _ _ _ _ _ _).trans ?_
  refine x_cut.trans ?_
  exact (zrun_c rfl).trans (glr_X2_findFair_41 _ _ _ _ _ _ _ _)
theorem s_X2_findFair_38 {X : zX} (hX : zHX X)   : ∀ σ L st r, gl_X2_findFair_38 j_X2_findFair_38 σ L st = some r → zGW X 22 krV 38 σ L st r := by
  intro σ L st r h
  unfold gl_X2_findFair_38 at h
  split at h
  · exact zin_ok (hy_X2_findFair hX) bk_X2_findFair (fun t f hf => by
    by_cases e41 : t = 41
    · rw [if_pos e41] at hf; subst e41; cases hf; exact ((fun σ L st r h => s_X2_findFair_41 hX (s_X2_findFair_104 hX) zN σ L st r h))
    rw [if_neg e41] at hf
    cases hf) ((e_X2_findFair_38 _ _ _ _ _ _ _).symm.trans h)
  · cases h
noncomputable def d_X2_findFair (σ : zH) (ia1 : Nat) (xa2 : Int32) : Option zH :=
  (d_X2_restart σ).bind fun σ1 =>
  (k_X2_findFair_18 j_X2_findFair_38 zN) σ1 ia1 xa2 (σ1.1 0 (0 + 1) 0) (0 : Int32)
theorem e_X2_findFair (σ : zH) (ia1 : Nat) (xa2 : Int32) : d_X2_findFair σ ia1 xa2 = zin cc_X2_findFair (fun t => if t = 18 then some (gl_X2_findFair_18 (k_X2_findFair_18 j_X2_findFair_38 zN)) else none) 9 krV b_X2_findFair 0 σ [vR 2 0, vR 4 ia1, vI xa2, vU, vU, vU, vU] [] := by
  unfold d_X2_findFair
  refine Eq.symm ((zin_b (es := q_X2_findFair_0) rfl).trans ?_)
  refine (t_X2_findFair_0 _ _ _ _ _ _ _ _).trans ?_
  refine (x_callV rfl rfl rfl rfl).trans ((cl_X2_findFair_X2_restart _ _ _).trans ((gr_X2_restart _ _).trans (pbd fun _ => ?_)))
  refine (t_X2_findFair_4 _ _ _ _ _ _ _ _ _).trans ?_
  refine x_cut.trans ?_
  exact (zrun_c rfl).trans (glr_X2_findFair_18 _ _ _ _ _ _ _ _)
noncomputable def g_X2_findFair {ρ : Type} (σ : zH) (av : List zAV) (q : zH → zAV → Option ρ) : Option ρ := match av with
  | [.inr (.inr (.inl (2, 0))), .inr (.inr (.inl (4, ia1))), .inl xa2] => (d_X2_findFair σ ia1 xa2).bind fun σ => q σ vU
  | _ => none
theorem gr_X2_findFair {ρ : Type} (σ : zH) (ia1 : Nat) (xa2 : Int32) (q : zH → zAV → Option ρ) : g_X2_findFair σ [vR 2 0, vR 4 ia1, vI xa2] q = (d_X2_findFair σ ia1 xa2).bind fun σ => q σ vU := rfl
theorem c_X2_findFair {ρ : Type} {X : zX} (hX : zHX X) {σ : zH} {av : List zAV} {q : zH → zAV → Option ρ} {r : ρ} (h : g_X2_findFair σ av q = some r) (hv : ∀ a ∈ av, zval X a) : zcon X 22 σ av q r := by
  unfold g_X2_findFair at h
  split at h
  · exact zcon_V (n := 22) (ml := 7) (rc := 9) (st := 0) (kd := 2) (np := 2) (by decide +kernel) rfl ⟨_, _, rfl, rfl⟩ (Nat.le_of_ble_eq_true rfl) hv h (fun y h1 => (zin_ok (hy_X2_findFair hX) bk_X2_findFair (fun t f hf => by
      by_cases e18 : t = 18
      · rw [if_pos e18] at hf; subst e18; cases hf; exact ((fun σ L st r h => s_X2_findFair_18 hX (s_X2_findFair_38 hX) zN σ L st r h))
      rw [if_neg e18] at hf
      cases hf) ((e_X2_findFair _ _ _).symm.trans h1)))
  · cases h
/-! SleepWaves$Forecast.findSwap(LSleepWaves$Law;I)V -/
def q_X2_findSwap_30 : List zEnt := zE 30 (.istore_n 3) 1 :: zEk 31 (.iconst 0) 1 0 :: zE 32 (.istore 4) 2 :: [zE 34 .nop 0]
def q_X2_findSwap_27 : List zEnt := zEc 27 (.invokevirtual 62) 3 75 1 94 0 :: q_X2_findSwap_30
def q_X2_findSwap_23 : List zEnt := zE 23 (.aload_n 0) 1 :: zEf 24 (.getfield 12) 3 2 1 128 (2, 8, 5) :: q_X2_findSwap_27
def q_X2_findSwap_20 : List zEnt := zEc 20 (.invokevirtual 41) 3 82 3 92 1 :: q_X2_findSwap_23
def q_X2_findSwap_14 : List zEnt := zE 14 (.aload_n 0) 1 :: zEf 15 (.getfield 12) 3 2 1 128 (2, 8, 5) :: zE 18 (.aload_n 1) 1 :: zE 19 (.iload_n 2) 1 :: q_X2_findSwap_20
def q_X2_findSwap_11 : List zEnt := zEc 11 (.invokevirtual 38) 3 15 1 89 1 :: q_X2_findSwap_14
def q_X2_findSwap_10 : List zEnt := zE 10 (.aload_n 0) 1 :: q_X2_findSwap_11
def q_X2_findSwap_7 : List zEnt := zEc 7 (.invokevirtual 68) 3 16 4 98 1 :: q_X2_findSwap_10
def q_X2_findSwap_0 : List zEnt := zE 0 (.aload_n 0) 1 :: zEk 1 (.bipush (-2)) 2 (-2) :: zEk 3 (.bipush (-2)) 2 (-2) :: zEk 5 (.bipush (-2)) 2 (-2) :: q_X2_findSwap_7
def q_X2_findSwap_49 : List zEnt := zE 49 (.iload 4) 2 :: zEk 51 (.iconst 1) 1 1 :: zE 52 .iadd 1 :: zE 53 (.istore 5) 2 :: [zE 55 .nop 0]
def q_X2_findSwap_46 : List zEnt := zEa 46 (.if_icmp .ge 129) 3 175 :: q_X2_findSwap_49
def q_X2_findSwap_34 : List zEnt := zE 34 (.iload 4) 2 :: zE 36 (.aload_n 0) 1 :: zEf 37 (.getfield 28) 3 2 0 127 (2, 8, 0) :: zEf 40 (.getfield 78) 3 8 0 86 (1, 0, 1) :: zEf 43 (.getfield 91) 3 0 0 35 (0, 0, 0) :: q_X2_findSwap_46
def q_X2_findSwap_99 : List zEnt := zEa 99 (.goto 64) 3 163 :: []
def q_X2_findSwap_96 : List zEnt := zEa 96 (.if_icmp .ne 6) 3 102 :: q_X2_findSwap_99
def q_X2_findSwap_95 : List zEnt := zE 95 .iaload 1 :: q_X2_findSwap_96
def q_X2_findSwap_83 : List zEnt := zE 83 (.aload_n 0) 1 :: zEf 84 (.getfield 28) 3 2 0 127 (2, 8, 0) :: zEf 87 (.getfield 78) 3 8 0 86 (1, 0, 1) :: zEf 90 (.getfield 98) 3 0 3 49 (1, 14, 0) :: zE 93 (.iload 5) 2 :: q_X2_findSwap_95
def q_X2_findSwap_82 : List zEnt := zE 82 .iaload 1 :: q_X2_findSwap_83
def q_X2_findSwap_70 : List zEnt := zE 70 (.aload_n 0) 1 :: zEf 71 (.getfield 28) 3 2 0 127 (2, 8, 0) :: zEf 74 (.getfield 78) 3 8 0 86 (1, 0, 1) :: zEf 77 (.getfield 98) 3 0 3 49 (1, 14, 0) :: zE 80 (.iload 4) 2 :: q_X2_findSwap_82
def q_X2_findSwap_67 : List zEnt := zEa 67 (.if_icmp .ge 102) 3 169 :: q_X2_findSwap_70
def q_X2_findSwap_55 : List zEnt := zE 55 (.iload 5) 2 :: zE 57 (.aload_n 0) 1 :: zEf 58 (.getfield 28) 3 2 0 127 (2, 8, 0) :: zEf 61 (.getfield 78) 3 8 0 86 (1, 0, 1) :: zEf 64 (.getfield 91) 3 0 0 35 (0, 0, 0) :: q_X2_findSwap_67
def q_X2_findSwap_166 : List zEnt := zEa 166 (.goto (-111)) 3 55 :: []
def q_X2_findSwap_163 : List zEnt := zEk 163 (.iinc 5 1) 3 1 :: q_X2_findSwap_166
def q_X2_findSwap_160 : List zEnt := zEc 160 (.invokevirtual 68) 3 16 4 98 1 :: q_X2_findSwap_163
def q_X2_findSwap_144 : List zEnt := zE 144 (.iload 6) 2 :: zE 146 (.istore_n 3) 1 :: zE 147 (.aload_n 0) 1 :: zEk 148 (.bipush 12) 2 12 :: zE 150 (.iload 4) 2 :: zE 152 .imul 1 :: zE 153 (.iload 5) 2 :: zE 155 .iadd 1 :: zE 156 (.iload 6) 2 :: zEk 158 (.bipush (-2)) 2 (-2) :: q_X2_findSwap_160
def q_X2_findSwap_141 : List zEnt := zEa 141 (.if_icmp .ge 22) 3 163 :: q_X2_findSwap_144
def q_X2_findSwap_136 : List zEnt := zE 136 (.istore 6) 2 :: zE 138 (.iload 6) 2 :: zE 140 (.iload_n 3) 1 :: q_X2_findSwap_141
def q_X2_findSwap_133 : List zEnt := zEc 133 (.invokevirtual 62) 3 75 1 94 0 :: q_X2_findSwap_136
def q_X2_findSwap_129 : List zEnt := zE 129 (.aload_n 0) 1 :: zEf 130 (.getfield 12) 3 2 1 128 (2, 8, 5) :: q_X2_findSwap_133
def q_X2_findSwap_126 : List zEnt := zEc 126 (.invokevirtual 41) 3 82 3 92 1 :: q_X2_findSwap_129
def q_X2_findSwap_120 : List zEnt := zE 120 (.aload_n 0) 1 :: zEf 121 (.getfield 12) 3 2 1 128 (2, 8, 5) :: zE 124 (.aload_n 1) 1 :: zE 125 (.iload_n 2) 1 :: q_X2_findSwap_126
def q_X2_findSwap_117 : List zEnt := zEc 117 (.invokevirtual 101) 3 6 3 114 1 :: q_X2_findSwap_120
def q_X2_findSwap_106 : List zEnt := zE 106 (.aload_n 0) 1 :: zEf 107 (.getfield 12) 3 2 1 128 (2, 8, 5) :: zEf 110 (.getfield 78) 3 8 0 86 (1, 0, 1) :: zE 113 (.iload 4) 2 :: zE 115 (.iload 5) 2 :: q_X2_findSwap_117
def q_X2_findSwap_103 : List zEnt := zEc 103 (.invokevirtual 38) 3 15 1 89 1 :: q_X2_findSwap_106
def q_X2_findSwap_102 : List zEnt := zE 102 (.aload_n 0) 1 :: q_X2_findSwap_103
def q_X2_findSwap_172 : List zEnt := zEa 172 (.goto (-138)) 3 34 :: []
def q_X2_findSwap_169 : List zEnt := zEk 169 (.iinc 4 1) 3 1 :: q_X2_findSwap_172
def q_X2_findSwap_175 : List zEnt := zE 175 .return_ 1 :: []
def b_X2_findSwap : List (Nat × List zEnt) := [(0, q_X2_findSwap_0), (34, q_X2_findSwap_34), (55, q_X2_findSwap_55), (102, q_X2_findSwap_102), (163, q_X2_findSwap_163), (169, q_X2_findSwap_169), (175, q_X2_findSwap_175)]
theorem bk_X2_findSwap : zchB 23 b_X2_findSwap = true := by decide +kernel
noncomputable def cc_X2_findSwap {ρ : Type} : Nat → zH → List zAV → (zH → zAV → Option ρ) → Option ρ := fun n σ av q => if n = 16 then g_X2_keep σ av q else if n = 15 then g_X2_restart σ av q else if n = 82 then g_X8_passQuarters σ av q else if n = 75 then g_X8_tiredTogether σ av q else if n = 6 then g_X0_exchangeBeds σ av q else none
theorem cs_X2_findSwap {ρ : Type} {X : zX} (hX : zHX X) : zCS X (cc_X2_findSwap (ρ := ρ)) := by
  intro n σ av q r h hv
  unfold cc_X2_findSwap at h
  by_cases e_X2_keep : n = 16
  · rw [if_pos e_X2_keep] at h
    subst e_X2_keep
    exact c_X2_keep hX h hv
  rw [if_neg e_X2_keep] at h
  by_cases e_X2_restart : n = 15
  · rw [if_pos e_X2_restart] at h
    subst e_X2_restart
    exact c_X2_restart hX h hv
  rw [if_neg e_X2_restart] at h
  by_cases e_X8_passQuarters : n = 82
  · rw [if_pos e_X8_passQuarters] at h
    subst e_X8_passQuarters
    exact c_X8_passQuarters hX h hv
  rw [if_neg e_X8_passQuarters] at h
  by_cases e_X8_tiredTogether : n = 75
  · rw [if_pos e_X8_tiredTogether] at h
    subst e_X8_tiredTogether
    exact c_X8_tiredTogether hX h hv
  rw [if_neg e_X8_tiredTogether] at h
  by_cases e_X0_exchangeBeds : n = 6
  · rw [if_pos e_X0_exchangeBeds] at h
    subst e_X0_exchangeBeds
    exact c_X0_exchangeBeds hX h hv
  rw [if_neg e_X0_exchangeBeds] at h
  cases h
theorem cl_X2_findSwap_X2_keep {ρ : Type} (σ : zH) (av : List zAV) (q : zH → zAV → Option ρ) : cc_X2_findSwap 16 σ av q = g_X2_keep σ av q := rfl
theorem cl_X2_findSwap_X2_restart {ρ : Type} (σ : zH) (av : List zAV) (q : zH → zAV → Option ρ) : cc_X2_findSwap 15 σ av q = g_X2_restart σ av q := rfl
theorem cl_X2_findSwap_X8_passQuarters {ρ : Type} (σ : zH) (av : List zAV) (q : zH → zAV → Option ρ) : cc_X2_findSwap 82 σ av q = g_X8_passQuarters σ av q := rfl
theorem cl_X2_findSwap_X8_tiredTogether {ρ : Type} (σ : zH) (av : List zAV) (q : zH → zAV → Option ρ) : cc_X2_findSwap 75 σ av q = g_X8_tiredTogether σ av q := rfl
theorem cl_X2_findSwap_X0_exchangeBeds {ρ : Type} (σ : zH) (av : List zAV) (q : zH → zAV → Option ρ) : cc_X2_findSwap 6 σ av q = g_X0_exchangeBeds σ av q := rfl
theorem hy_X2_findSwap {ρ : Type} {X : zX} (hX : zHX X) : zHY X 23 (cc_X2_findSwap (ρ := ρ)) := zHX.hY hX (cs_X2_findSwap hX) (zmok_all 23 (by decide))
def gl_X2_findSwap_34 {ρ : Type} (f : zH → Nat → Int32 → Int32 → Int32 → Option ρ) (σ : zH) (L st : List zAV) : Option ρ := match L, st with
  | [.inr (.inr (.inl (2, 0))), .inr (.inr (.inl (4, i1))), .inl x2, .inl x3, .inl x4, _, _], [] => f σ i1 x2 x3 x4
  | _, _ => none
def gl_X2_findSwap_55 {ρ : Type} (f : zH → Nat → Int32 → Int32 → Int32 → Int32 → Option ρ) (σ : zH) (L st : List zAV) : Option ρ := match L, st with
  | [.inr (.inr (.inl (2, 0))), .inr (.inr (.inl (4, i1))), .inl x2, .inl x3, .inl x4, .inl x5, _], [] => f σ i1 x2 x3 x4 x5
  | _, _ => none
def gl_X2_findSwap_169 {ρ : Type} (f : zH → Nat → Int32 → Int32 → Int32 → Option ρ) (σ : zH) (L st : List zAV) : Option ρ := match L, st with
  | [.inr (.inr (.inl (2, 0))), .inr (.inr (.inl (4, i1))), .inl x2, .inl x3, .inl x4, _, _], [] => f σ i1 x2 x3 x4
  | _, _ => none
theorem glr_X2_findSwap_34 {ρ : Type} (f : zH → Nat → Int32 → Int32 → Int32 → Option ρ) (σ : zH) (i1 : Nat) (x2 : Int32) (x3 : Int32) (x4 : Int32) (y5 : zAV) (y6 : zAV) : gl_X2_findSwap_34 f σ [vR 2 0, vR 4 i1, vI x2, vI x3, vI x4, y5, y6] [] = f σ i1 x2 x3 x4 := rfl
theorem glr_X2_findSwap_55 {ρ : Type} (f : zH → Nat → Int32 → Int32 → Int32 → Int32 → Option ρ) (σ : zH) (i1 : Nat) (x2 : Int32) (x3 : Int32) (x4 : Int32) (x5 : Int32) (y6 : zAV) : gl_X2_findSwap_55 f σ [vR 2 0, vR 4 i1, vI x2, vI x3, vI x4, vI x5, y6] [] = f σ i1 x2 x3 x4 x5 := rfl
theorem glr_X2_findSwap_169 {ρ : Type} (f : zH → Nat → Int32 → Int32 → Int32 → Option ρ) (σ : zH) (i1 : Nat) (x2 : Int32) (x3 : Int32) (x4 : Int32) (y5 : zAV) (y6 : zAV) : gl_X2_findSwap_169 f σ [vR 2 0, vR 4 i1, vI x2, vI x3, vI x4, y5, y6] [] = f σ i1 x2 x3 x4 := rfl
theorem t_X2_findSwap_0 {G : Nat → zH → List zAV → List zAV → Option zH} (es : List zEnt) (σ : zH) (i1 : Nat) (x2 : Int32) (y3 : zAV) (y4 : zAV) (y5 : zAV) (y6 : zAV) (w1 : Int32) (w3 : Int32) (w5 : Int32) : zev cc_X2_findSwap G 9 krV (zE 0 (.aload_n 0) 1 :: zEk 1 (.bipush (-2)) 2 w1 :: zEk 3 (.bipush (-2)) 2 w3 :: zEk 5 (.bipush (-2)) 2 w5 :: es) σ [vR 2 0, vR 4 i1, vI x2, y3, y4, y5, y6] [] = zev cc_X2_findSwap G 9 krV es σ [vR 2 0, vR 4 i1, vI x2, y3, y4, y5, y6] [vI w5, vI w3, vI w1, vR 2 0] := rfl
theorem t_X2_findSwap_10 {G : Nat → zH → List zAV → List zAV → Option zH} (es : List zEnt) (σ : zH) (i1 : Nat) (x2 : Int32) (y3 : zAV) (y4 : zAV) (y5 : zAV) (y6 : zAV)  : zev cc_X2_findSwap G 9 krV (zE 10 (.aload_n 0) 1 :: es) σ [vR 2 0, vR 4 i1, vI x2, y3, y4, y5, y6] [] = zev cc_X2_findSwap G 9 krV es σ [vR 2 0, vR 4 i1, vI x2, y3, y4, y5, y6] [vR 2 0] := rfl
theorem t_X2_findSwap_14 {G : Nat → zH → List zAV → List zAV → Option zH} (es : List zEnt) (σ : zH) (i1 : Nat) (x2 : Int32) (y3 : zAV) (y4 : zAV) (y5 : zAV) (y6 : zAV)  : zev cc_X2_findSwap G 9 krV (zE 14 (.aload_n 0) 1 :: zEf 15 (.getfield 12) 3 2 1 128 (2, 8, 5) :: zE 18 (.aload_n 1) 1 :: zE 19 (.iload_n 2) 1 :: es) σ [vR 2 0, vR 4 i1, vI x2, y3, y4, y5, y6] [] = zev cc_X2_findSwap G 9 krV es σ [vR 2 0, vR 4 i1, vI x2, y3, y4, y5, y6] [vI x2, vR 4 i1, vR 8 5] := rfl
theorem t_X2_findSwap_23 {G : Nat → zH → List zAV → List zAV → Option zH} (es : List zEnt) (σ : zH) (i1 : Nat) (x2 : Int32) (y3 : zAV) (y4 : zAV) (y5 : zAV) (y6 : zAV)  : zev cc_X2_findSwap G 9 krV (zE 23 (.aload_n 0) 1 :: zEf 24 (.getfield 12) 3 2 1 128 (2, 8, 5) :: es) σ [vR 2 0, vR 4 i1, vI x2, y3, y4, y5, y6] [] = zev cc_X2_findSwap G 9 krV es σ [vR 2 0, vR 4 i1, vI x2, y3, y4, y5, y6] [vR 8 5] := rfl
theorem t_X2_findSwap_30 {G : Nat → zH → List zAV → List zAV → Option zH} (es : List zEnt) (σ : zH) (i1 : Nat) (x2 : Int32) (xs0 : Int32) (y3 : zAV) (y4 : zAV) (y5 : zAV) (y6 : zAV) (w31 : Int32) : zev cc_X2_findSwap G 9 krV (zE 30 (.istore_n 3) 1 :: zEk 31 (.iconst 0) 1 w31 :: zE 32 (.istore 4) 2 :: es) σ [vR 2 0, vR 4 i1, vI x2, y3, y4, y5, y6] [vI xs0] = zev cc_X2_findSwap G 9 krV es σ [vR 2 0, vR 4 i1, vI x2, vI xs0, vI w31, y5, y6] [] := rfl
theorem t_X2_findSwap_34 {G : Nat → zH → List zAV → List zAV → Option zH} (es : List zEnt) (σ : zH) (i1 : Nat) (x2 : Int32) (x3 : Int32) (x4 : Int32) (y5 : zAV) (y6 : zAV)  : zev cc_X2_findSwap G 9 krV (zE 34 (.iload 4) 2 :: zE 36 (.aload_n 0) 1 :: zEf 37 (.getfield 28) 3 2 0 127 (2, 8, 0) :: zEf 40 (.getfield 78) 3 8 0 86 (1, 0, 1) :: zEf 43 (.getfield 91) 3 0 0 35 (0, 0, 0) :: es) σ [vR 2 0, vR 4 i1, vI x2, vI x3, vI x4, y5, y6] [] = zev cc_X2_findSwap G 9 krV es σ [vR 2 0, vR 4 i1, vI x2, vI x3, vI x4, y5, y6] [vI (σ.1 0 (0 + 1) 0), vI x4] := rfl
theorem t_X2_findSwap_49 {G : Nat → zH → List zAV → List zAV → Option zH} (es : List zEnt) (σ : zH) (i1 : Nat) (x2 : Int32) (x3 : Int32) (x4 : Int32) (y5 : zAV) (y6 : zAV) (w51 : Int32) : zev cc_X2_findSwap G 9 krV (zE 49 (.iload 4) 2 :: zEk 51 (.iconst 1) 1 w51 :: zE 52 .iadd 1 :: zE 53 (.istore 5) 2 :: es) σ [vR 2 0, vR 4 i1, vI x2, vI x3, vI x4, y5, y6] [] = zev cc_X2_findSwap G 9 krV es σ [vR 2 0, vR 4 i1, vI x2, vI x3, vI x4, vI (x4 + w51), y6] [] := rfl
theorem t_X2_findSwap_55 {G : Nat → zH → List zAV → List zAV → Option zH} (es : List zEnt) (σ : zH) (i1 : Nat) (x2 : Int32) (x3 : Int32) (x4 : Int32) (x5 : Int32) (y6 : zAV)  : zev cc_X2_findSwap G 9 krV (zE 55 (.iload 5) 2 :: zE 57 (.aload_n 0) 1 :: zEf 58 (.getfield 28) 3 2 0 127 (2, 8, 0) :: zEf 61 (.getfield 78) 3 8 0 86 (1, 0, 1) :: zEf 64 (.getfield 91) 3 0 0 35 (0, 0, 0) :: es) σ [vR 2 0, vR 4 i1, vI x2, vI x3, vI x4, vI x5, y6] [] = zev cc_X2_findSwap G 9 krV es σ [vR 2 0, vR 4 i1, vI x2, vI x3, vI x4, vI x5, y6] [vI (σ.1 0 (0 + 1) 0), vI x5] := rfl
theorem t_X2_findSwap_70 {G : Nat → zH → List zAV → List zAV → Option zH} (es : List zEnt) (σ : zH) (i1 : Nat) (x2 : Int32) (x3 : Int32) (x4 : Int32) (x5 : Int32) (y6 : zAV)  : zev cc_X2_findSwap G 9 krV (zE 70 (.aload_n 0) 1 :: zEf 71 (.getfield 28) 3 2 0 127 (2, 8, 0) :: zEf 74 (.getfield 78) 3 8 0 86 (1, 0, 1) :: zEf 77 (.getfield 98) 3 0 3 49 (1, 14, 0) :: zE 80 (.iload 4) 2 :: es) σ [vR 2 0, vR 4 i1, vI x2, vI x3, vI x4, vI x5, y6] [] = zev cc_X2_findSwap G 9 krV es σ [vR 2 0, vR 4 i1, vI x2, vI x3, vI x4, vI x5, y6] [vI x4, vR 14 ((0 + 1) + 0)] := rfl
theorem t_X2_findSwap_83 {G : Nat → zH → List zAV → List zAV → Option zH} (es : List zEnt) (σ : zH) (i1 : Nat) (x2 : Int32) (x3 : Int32) (x4 : Int32) (x5 : Int32) (xs0 : Int32) (y6 : zAV)  : zev cc_X2_findSwap G 9 krV (zE 83 (.aload_n 0) 1 :: zEf 84 (.getfield 28) 3 2 0 127 (2, 8, 0) :: zEf 87 (.getfield 78) 3 8 0 86 (1, 0, 1) :: zEf 90 (.getfield 98) 3 0 3 49 (1, 14, 0) :: zE 93 (.iload 5) 2 :: es) σ [vR 2 0, vR 4 i1, vI x2, vI x3, vI x4, vI x5, y6] [vI xs0] = zev cc_X2_findSwap G 9 krV es σ [vR 2 0, vR 4 i1, vI x2, vI x3, vI x4, vI x5, y6] [vI x5, vR 14 ((0 + 1) + 0), vI xs0] := rfl
theorem t_X2_findSwap_102 {G : Nat → zH → List zAV → List zAV → Option zH} (es : List zEnt) (σ : zH) (i1 : Nat) (x2 : Int32) (x3 : Int32) (x4 : Int32) (x5 : Int32) (y6 : zAV)  : zev cc_X2_findSwap G 9 krV (zE 102 (.aload_n 0) 1 :: es) σ [vR 2 0, vR 4 i1, vI x2, vI x3, vI x4, vI x5, y6] [] = zev cc_X2_findSwap G 9 krV es σ [vR 2 0, vR 4 i1, vI x2, vI x3, vI x4, vI x5, y6] [vR 2 0] := rfl
theorem t_X2_findSwap_106 {G : Nat → zH → List zAV → List zAV → Option zH} (es : List zEnt) (σ : zH) (i1 : Nat) (x2 : Int32) (x3 : Int32) (x4 : Int32) (x5 : Int32) (y6 : zAV)  : zev cc_X2_findSwap G 9 krV (zE 106 (.aload_n 0) 1 :: zEf 107 (.getfield 12) 3 2 1 128 (2, 8, 5) :: zEf 110 (.getfield 78) 3 8 0 86 (1, 0, 1) :: zE 113 (.iload 4) 2 :: zE 115 (.iload 5) 2 :: es) σ [vR 2 0, vR 4 i1, vI x2, vI x3, vI x4, vI x5, y6] [] = zev cc_X2_findSwap G 9 krV es σ [vR 2 0, vR 4 i1, vI x2, vI x3, vI x4, vI x5, y6] [vI x5, vI x4, vR 0 (5 + 1)] := rfl
theorem t_X2_findSwap_120 {G : Nat → zH → List zAV → List zAV → Option zH} (es : List zEnt) (σ : zH) (i1 : Nat) (x2 : Int32) (x3 : Int32) (x4 : Int32) (x5 : Int32) (y6 : zAV)  : zev cc_X2_findSwap G 9 krV (zE 120 (.aload_n 0) 1 :: zEf 121 (.getfield 12) 3 2 1 128 (2, 8, 5) :: zE 124 (.aload_n 1) 1 :: zE 125 (.iload_n 2) 1 :: es) σ [vR 2 0, vR 4 i1, vI x2, vI x3, vI x4, vI x5, y6] [] = zev cc_X2_findSwap G 9 krV es σ [vR 2 0, vR 4 i1, vI x2, vI x3, vI x4, vI x5, y6] [vI x2, vR 4 i1, vR 8 5] := rfl
theorem t_X2_findSwap_129 {G : Nat → zH → List zAV → List zAV → Option zH} (es : List zEnt) (σ : zH) (i1 : Nat) (x2 : Int32) (x3 : Int32) (x4 : Int32) (x5 : Int32) (y6 : zAV)  : zev cc_X2_findSwap G 9 krV (zE 129 (.aload_n 0) 1 :: zEf 130 (.getfield 12) 3 2 1 128 (2, 8, 5) :: es) σ [vR 2 0, vR 4 i1, vI x2, vI x3, vI x4, vI x5, y6] [] = zev cc_X2_findSwap G 9 krV es σ [vR 2 0, vR 4 i1, vI x2, vI x3, vI x4, vI x5, y6] [vR 8 5] := rfl
theorem t_X2_findSwap_136 {G : Nat → zH → List zAV → List zAV → Option zH} (es : List zEnt) (σ : zH) (i1 : Nat) (x2 : Int32) (x3 : Int32) (x4 : Int32) (x5 : Int32) (xs0 : Int32) (y6 : zAV)  : zev cc_X2_findSwap G 9 krV (zE 136 (.istore 6) 2 :: zE 138 (.iload 6) 2 :: zE 140 (.iload_n 3) 1 :: es) σ [vR 2 0, vR 4 i1, vI x2, vI x3, vI x4, vI x5, y6] [vI xs0] = zev cc_X2_findSwap G 9 krV es σ [vR 2 0, vR 4 i1, vI x2, vI x3, vI x4, vI x5, vI xs0] [vI x3, vI xs0] := rfl
theorem t_X2_findSwap_144 {G : Nat → zH → List zAV → List zAV → Option zH} (es : List zEnt) (σ : zH) (i1 : Nat) (x2 : Int32) (x4 : Int32) (x5 : Int32) (x6 : Int32) (y3 : zAV) (w148 : Int32) (w158 : Int32) : zev cc_X2_findSwap G 9 krV (zE 144 (.iload 6) 2 :: zE 146 (.istore_n 3) 1 :: zE 147 (.aload_n 0) 1 :: zEk 148 (.bipush 12) 2 w148 :: zE 150 (.iload 4) 2 :: zE 152 .imul 1 :: zE 153 (.iload 5) 2 :: zE 155 .iadd 1 :: zE 156 (.iload 6) 2 :: zEk 158 (.bipush (-2)) 2 w158 :: es) σ [vR 2 0, vR 4 i1, vI x2, y3, vI x4, vI x5, vI x6] [] = zev cc_X2_findSwap G 9 krV es σ [vR 2 0, vR 4 i1, vI x2, vI x6, vI x4, vI x5, vI x6] [vI w158, vI x6, vI ((w148 * x4) + x5), vR 2 0] := rfl
theorem t_X2_findSwap_163 {G : Nat → zH → List zAV → List zAV → Option zH} (es : List zEnt) (σ : zH) (i1 : Nat) (x2 : Int32) (x3 : Int32) (x4 : Int32) (x5 : Int32) (y6 : zAV) (w163 : Int32) : zev cc_X2_findSwap G 9 krV (zEk 163 (.iinc 5 1) 3 w163 :: es) σ [vR 2 0, vR 4 i1, vI x2, vI x3, vI x4, vI x5, y6] [] = zev cc_X2_findSwap G 9 krV es σ [vR 2 0, vR 4 i1, vI x2, vI x3, vI x4, vI (x5 + w163), y6] [] := rfl
theorem t_X2_findSwap_169 {G : Nat → zH → List zAV → List zAV → Option zH} (es : List zEnt) (σ : zH) (i1 : Nat) (x2 : Int32) (x3 : Int32) (x4 : Int32) (y5 : zAV) (y6 : zAV) (w169 : Int32) : zev cc_X2_findSwap G 9 krV (zEk 169 (.iinc 4 1) 3 w169 :: es) σ [vR 2 0, vR 4 i1, vI x2, vI x3, vI x4, y5, y6] [] = zev cc_X2_findSwap G 9 krV es σ [vR 2 0, vR 4 i1, vI x2, vI x3, vI (x4 + w169), y5, y6] [] := rfl
noncomputable def k_X2_findSwap_55 (c169 : zH → Nat → Int32 → Int32 → Int32 → Option zH) : Nat → zH → Nat → Int32 → Int32 → Int32 → Int32 → Option zH
  | 0, _, _, _, _, _, _ => none
  | n + 1, σ, i1, x2, x3, x4, x5 =>
    if x5 < (σ.1 0 (0 + 1) 0) then
      ix x4 12 fun j1 =>
      ix x5 12 fun j2 =>
      if (σ.1 14 ((0 + 1) + 0) j1) = (σ.1 14 ((0 + 1) + 0) j2) then
        (k_X2_findSwap_55 c169 n) σ i1 x2 x3 x4 (x5 + (1 : Int32))
      else
        (d_X2_restart σ).bind fun σ3 =>
        (d_X0_exchangeBeds σ3 (5 + 1) x4 x5).bind fun σ4 =>
        (d_X8_passQuarters σ4 5 i1 x2).bind fun σ5 =>
        (d_X8_tiredTogether σ5 5).bind fun p6 =>
        if p6.2 < x3 then
          (d_X2_keep p6.1 (((12 : Int32) * x4) + x5) p6.2 (-2 : Int32)).bind fun σ7 =>
          (k_X2_findSwap_55 c169 n) σ7 i1 x2 p6.2 x4 (x5 + (1 : Int32))
        else
          (k_X2_findSwap_55 c169 n) p6.1 i1 x2 x3 x4 (x5 + (1 : Int32))
    else
      c169 σ i1 x2 x3 x4
theorem e_X2_findSwap_55 (c169 : zH → Nat → Int32 → Int32 → Int32 → Option zH) (n : Nat) (σ : zH) (i1 : Nat) (x2 : Int32) (x3 : Int32) (x4 : Int32) (x5 : Int32) (y6 : zAV) : k_X2_findSwap_55 c169 (n + 1) σ i1 x2 x3 x4 x5 = zin cc_X2_findSwap (fun t => if t = 55 then some (gl_X2_findSwap_55 (k_X2_findSwap_55 c169 n)) else if t = 169 then some (gl_X2_findSwap_169 c169) else none) 9 krV b_X2_findSwap 55 σ [vR 2 0, vR 4 i1, vI x2, vI x3, vI x4, vI x5, y6] [] := by
  rw [k_X2_findSwap_55]
  refine Eq.symm ((zin_b (es := q_X2_findSwap_55) rfl).trans ?_)
  refine (t_X2_findSwap_55 _ _ _ _ _ _ _ _).trans ?_
  refine x_icmp.trans (pif_ge ?_ ?_)
  · exact (zrun_c rfl).trans (glr_X2_findSwap_169 _ _ _ _ _ _ _ _)
  · refine (t_X2_findSwap_70 _ _ _ _ _ _ _ _).trans ?_
    refine (x_iald (N := 12) rfl rfl).trans (pix fun _ => ?_)
    refine (t_X2_findSwap_83 _ _ _ _ _ _ _ _ _).trans ?_
    refine (x_iald (N := 12) rfl rfl).trans (pix fun _ => ?_)
    refine x_icmp.trans (pif_ne ?_ ?_)
    · refine (zrun_b (es := q_X2_findSwap_102) rfl rfl).trans ?_
      refine (t_X2_findSwap_102 _ _ _ _ _ _ _ _).trans ?_
      refine (x_callV rfl rfl rfl rfl).trans ((cl_X2_findSwap_X2_restart _ _ _).trans ((gr_X2_restart _ _).trans (pbd fun _ => ?_)))
      refine (t_X2_findSwap_106 _ _ _ _ _ _ _ _).trans ?_
      refine (x_callV rfl rfl rfl rfl).trans ((cl_X2_findSwap_X0_exchangeBeds _ _ _).trans ((gr_X0_exchangeBeds _ _ _ _ _).trans (pbd fun _ => ?_)))
      refine (t_X2_findSwap_120 _ _ _ _ _ _ _ _).trans ?_
      refine (x_callV rfl rfl rfl rfl).trans ((cl_X2_findSwap_X8_passQuarters _ _ _).trans ((gr_X8_passQuarters _ _ _ _ _).trans (pbd fun _ => ?_)))
      refine (t_X2_findSwap_129 _ _ _ _ _ _ _ _).trans ?_
      refine (x_callV rfl rfl rfl rfl).trans ((cl_X2_findSwap_X8_tiredTogether _ _ _).trans ((gr_X8_tiredTogether _ _ _).trans (pbd fun _ => ?_)))
      refine (t_X2_findSwap_136 _ _ _ _ _ _ _ _ _).trans ?_
      refine x_icmp.trans (pif_ge ?_ ?_)
      · refine (zrun_b (es := q_X2_findSwap_163) rfl rfl).trans ?_
        refine (t_X2_findSwap_163 _ _ _ _ _ _ _ _ _).trans ?_
        refine x_goto.trans ?_
        exact (zrun_c rfl).trans (glr_X2_findSwap_55 _ _ _ _ _ _ _ _)
      · refine (t_X2_findSwap_144 _ _ _ _ _ _ _ _ _ _).trans ?_
        refine (x_callV rfl rfl rfl rfl).trans ((cl_X2_findSwap_X2_keep _ _ _).trans ((gr_X2_keep _ _ _ _ _).trans (pbd fun _ => ?_)))
        refine (t_X2_findSwap_163 _ _ _ _ _ _ _ _ _).trans ?_
        refine x_goto.trans ?_
        exact (zrun_c rfl).trans (glr_X2_findSwap_55 _ _ _ _ _ _ _ _)
    · refine x_goto.trans ?_
      refine (zrun_b (es := q_X2_findSwap_163) rfl rfl).trans ?_
      refine (t_X2_findSwap_163 _ _ _ _ _ _ _ _ _).trans ?_
      refine x_goto.trans ?_
      exact (zrun_c rfl).trans (glr_X2_findSwap_55 _ _ _ _ _ _ _ _)
theorem s_X2_findSwap_55 {X : zX} (hX : zHX X) {c169 : zH → Nat → Int32 → Int32 → Int32 → Option zH} (h169 : ∀ σ L st r, gl_X2_findSwap_169 c169 σ L st = some r → zGW X 23 krV 169 σ L st r) : ∀ n σ L st r, gl_X2_findSwap_55 (k_X2_findSwap_55 c169 n) σ L st = some r → zGW X 23 krV 55 σ L st r := by
  intro n
  induction n with
  | zero =>
    intro σ L st r h
    unfold gl_X2_findSwap_55 at h
    split at h <;> cases h
  | succ n ih =>
    intro σ L st r h
    unfold gl_X2_findSwap_55 at h
    split at h
    · exact zin_ok (hy_X2_findSwap hX) bk_X2_findSwap (fun t f hf => by
      by_cases e55 : t = 55
      · rw [if_pos e55] at hf; subst e55; cases hf; exact ih
      rw [if_neg e55] at hf
      by_cases e169 : t = 169
      · rw [if_pos e169] at hf; subst e169; cases hf; exact h169
      rw [if_neg e169] at hf
      cases hf) ((e_X2_findSwap_55 _ _ _ _ _ _ _ _ _).symm.trans h)
    · cases h
noncomputable def j_X2_findSwap_169 (c34 : zH → Nat → Int32 → Int32 → Int32 → Option zH) (σ : zH) (i1 : Nat) (x2 : Int32) (x3 : Int32) (x4 : Int32) : Option zH :=
  c34 σ i1 x2 x3 (x4 + (1 : Int32))
theorem e_X2_findSwap_169 (c34 : zH → Nat → Int32 → Int32 → Int32 → Option zH) (σ : zH) (i1 : Nat) (x2 : Int32) (x3 : Int32) (x4 : Int32) (y5 : zAV) (y6 : zAV) : j_X2_findSwap_169 c34 σ i1 x2 x3 x4 = zin cc_X2_findSwap (fun t => if t = 34 then some (gl_X2_findSwap_34 c34) else none) 9 krV b_X2_findSwap 169 σ [vR 2 0, vR 4 i1, vI x2, vI x3, vI x4, y5, y6] [] := by
  unfold j_X2_findSwap_169
  refine Eq.symm ((zin_b (es := q_X2_findSwap_169) rfl).trans ?_)
  refine (t_X2_findSwap_169 _ _ _ _ _ _ _ _ _).trans ?_
  refine x_goto.trans ?_
  exact (zrun_c rfl).trans (glr_X2_findSwap_34 _ _ _ _ _ _ _ _)
theorem s_X2_findSwap_169 {X : zX} (hX : zHX X) {c34 : zH → Nat → Int32 → Int32 → Int32 → Option zH} (h34 : ∀ σ L st r, gl_X2_findSwap_34 c34 σ L st = some r → zGW X 23 krV 34 σ L st r) : ∀ σ L st r, gl_X2_findSwap_169 (j_X2_findSwap_169 c34) σ L st = some r → zGW X 23 krV 169 σ L st r := by
  intro σ L st r h
  unfold gl_X2_findSwap_169 at h
  split at h
  · exact zin_ok (hy_X2_findSwap hX) bk_X2_findSwap (fun t f hf => by
    by_cases e34 : t = 34
    · rw [if_pos e34] at hf; subst e34; cases hf; exact h34
    rw [if_neg e34] at hf
    cases hf) ((e_X2_findSwap_169 _ _ _ _ _ _ _ _).symm.trans h)
  · cases h
noncomputable def k_X2_findSwap_34  : Nat → zH → Nat → Int32 → Int32 → Int32 → Option zH
  | 0, _, _, _, _, _ => none
  | n + 1, σ, i1, x2, x3, x4 =>
    if x4 < (σ.1 0 (0 + 1) 0) then
      (k_X2_findSwap_55 (j_X2_findSwap_169 (k_X2_findSwap_34 n)) zN) σ i1 x2 x3 x4 (x4 + (1 : Int32))
    else
      some σ
theorem e_X2_findSwap_34  (n : Nat) (σ : zH) (i1 : Nat) (x2 : Int32) (x3 : Int32) (x4 : Int32) (y5 : zAV) (y6 : zAV) : k_X2_findSwap_34 (n + 1) σ i1 x2 x3 x4 = zin cc_X2_findSwap (fun t => if t = 55 then some (gl_X2_findSwap_55 (k_X2_findSwap_55 (j_X2_findSwap_169 (k_X2_findSwap_34 n)) zN)) else none) 9 krV b_X2_findSwap 34 σ [vR 2 0, vR 4 i1, vI x2, vI x3, vI x4, y5, y6] [] := by
  rw [k_X2_findSwap_34]
  refine Eq.symm ((zin_b (es := q_X2_findSwap_34) rfl).trans ?_)
  refine (t_X2_findSwap_34 _ _ _ _ _ _ _ _).trans ?_
  refine x_icmp.trans (pif_ge ?_ ?_)
  · refine (zrun_b (es := q_X2_findSwap_175) rfl rfl).trans ?_
    exact x_vret
  · refine (t_X2_findSwap_49 _ _ _ _ _ _ _ _ _).trans ?_
    refine x_cut.trans ?_
    exact (zrun_c rfl).trans (glr_X2_findSwap_55 _ _ _ _ _ _ _ _)
theorem s_X2_findSwap_34 {X : zX} (hX : zHX X)   : ∀ n σ L st r, gl_X2_findSwap_34 (k_X2_findSwap_34 n) σ L st = some r → zGW X 23 krV 34 σ L st r := by
  intro n
  induction n with
  | zero =>
    intro σ L st r h
    unfold gl_X2_findSwap_34 at h
    split at h <;> cases h
  | succ n ih =>
    intro σ L st r h
    unfold gl_X2_findSwap_34 at h
    split at h
    · exact zin_ok (hy_X2_findSwap hX) bk_X2_findSwap (fun t f hf => by
      by_cases e55 : t = 55
      · rw [if_pos e55] at hf; subst e55; cases hf; exact ((fun σ L st r h => s_X2_findSwap_55 hX (s_X2_findSwap_169 hX ih) zN σ L st r h))
      rw [if_neg e55] at hf
      cases hf) ((e_X2_findSwap_34 _ _ _ _ _ _ _ _).symm.trans h)
    · cases h
noncomputable def d_X2_findSwap (σ : zH) (ia1 : Nat) (xa2 : Int32) : Option zH :=
  (d_X2_keep σ (-2 : Int32) (-2 : Int32) (-2 : Int32)).bind fun σ1 =>
  (d_X2_restart σ1).bind fun σ2 =>
  (d_X8_passQuarters σ2 5 ia1 xa2).bind fun σ3 =>
  (d_X8_tiredTogether σ3 5).bind fun p4 =>
  (k_X2_findSwap_34 zN) p4.1 ia1 xa2 p4.2 (0 : Int32)
theorem e_X2_findSwap (σ : zH) (ia1 : Nat) (xa2 : Int32) : d_X2_findSwap σ ia1 xa2 = zin cc_X2_findSwap (fun t => if t = 34 then some (gl_X2_findSwap_34 (k_X2_findSwap_34 zN)) else none) 9 krV b_X2_findSwap 0 σ [vR 2 0, vR 4 ia1, vI xa2, vU, vU, vU, vU] [] := by
  unfold d_X2_findSwap
  refine Eq.symm ((zin_b (es := q_X2_findSwap_0) rfl).trans ?_)
  refine (t_X2_findSwap_0 _ _ _ _ _ _ _ _ _ _ _).trans ?_
  refine (x_callV rfl rfl rfl rfl).trans ((cl_X2_findSwap_X2_keep _ _ _).trans ((gr_X2_keep _ _ _ _ _).trans (pbd fun _ => ?_)))
  refine (t_X2_findSwap_10 _ _ _ _ _ _ _ _).trans ?_
  refine (x_callV rfl rfl rfl rfl).trans ((cl_X2_findSwap_X2_restart _ _ _).trans ((gr_X2_restart _ _).trans (pbd fun _ => ?_)))
  refine (t_X2_findSwap_14 _ _ _ _ _ _ _ _).trans ?_
  refine (x_callV rfl rfl rfl rfl).trans ((cl_X2_findSwap_X8_passQuarters _ _ _).trans ((gr_X8_passQuarters _ _ _ _ _).trans (pbd fun _ => ?_)))
  refine (t_X2_findSwap_23 _ _ _ _ _ _ _ _).trans ?_
  refine (x_callV rfl rfl rfl rfl).trans ((cl_X2_findSwap_X8_tiredTogether _ _ _).trans ((gr_X8_tiredTogether _ _ _).trans (pbd fun _ => ?_)))
  refine (t_X2_findSwap_30 _ _ _ _ _ _ _ _ _ _).trans ?_
  refine x_cut.trans ?_
  exact (zrun_c rfl).trans (glr_X2_findSwap_34 _ _ _ _ _ _ _ _)
noncomputable def g_X2_findSwap {ρ : Type} (σ : zH) (av : List zAV) (q : zH → zAV → Option ρ) : Option ρ := match av with
  | [.inr (.inr (.inl (2, 0))), .inr (.inr (.inl (4, ia1))), .inl xa2] => (d_X2_findSwap σ ia1 xa2).bind fun σ => q σ vU
  | _ => none
theorem gr_X2_findSwap {ρ : Type} (σ : zH) (ia1 : Nat) (xa2 : Int32) (q : zH → zAV → Option ρ) : g_X2_findSwap σ [vR 2 0, vR 4 ia1, vI xa2] q = (d_X2_findSwap σ ia1 xa2).bind fun σ => q σ vU := rfl
theorem c_X2_findSwap {ρ : Type} {X : zX} (hX : zHX X) {σ : zH} {av : List zAV} {q : zH → zAV → Option ρ} {r : ρ} (h : g_X2_findSwap σ av q = some r) (hv : ∀ a ∈ av, zval X a) : zcon X 23 σ av q r := by
  unfold g_X2_findSwap at h
  split at h
  · exact zcon_V (n := 23) (ml := 7) (rc := 9) (st := 0) (kd := 2) (np := 2) (by decide +kernel) rfl ⟨_, _, rfl, rfl⟩ (Nat.le_of_ble_eq_true rfl) hv h (fun y h1 => (zin_ok (hy_X2_findSwap hX) bk_X2_findSwap (fun t f hf => by
      by_cases e34 : t = 34
      · rw [if_pos e34] at hf; subst e34; cases hf; exact ((fun σ L st r h => s_X2_findSwap_34 hX  zN σ L st r h))
      rw [if_neg e34] at hf
      cases hf) ((e_X2_findSwap _ _ _).symm.trans h1)))
  · cases h
