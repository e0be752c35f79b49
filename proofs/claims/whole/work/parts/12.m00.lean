/-! SleepWaves$Camp.clear()V -/
def q_X0_clear_20 : List zEnt := zE 20 .return_ 1 :: []
def q_X0_clear_17 : List zEnt := zEf 17 (.putfield 49) 3 0 12 73 (0, 0, 0) :: q_X0_clear_20
def q_X0_clear_15 : List zEnt := zE 15 (.aload_n 0) 1 :: zEk 16 (.iconst 0) 1 0 :: q_X0_clear_17
def q_X0_clear_12 : List zEnt := zEf 12 (.putfield 46) 3 0 8 64 (0, 0, 0) :: q_X0_clear_15
def q_X0_clear_10 : List zEnt := zE 10 (.aload_n 0) 1 :: zEk 11 (.iconst 0) 1 0 :: q_X0_clear_12
def q_X0_clear_7 : List zEnt := zEf 7 (.putfield 43) 3 0 5 55 (0, 0, 0) :: q_X0_clear_10
def q_X0_clear_5 : List zEnt := zE 5 (.aload_n 0) 1 :: zEk 6 (.iconst 0) 1 0 :: q_X0_clear_7
def q_X0_clear_2 : List zEnt := zEf 2 (.putfield 39) 3 0 0 30 (0, 0, 0) :: q_X0_clear_5
def q_X0_clear_0 : List zEnt := zE 0 (.aload_n 0) 1 :: zEk 1 (.iconst 0) 1 0 :: q_X0_clear_2
def b_X0_clear : List (Nat × List zEnt) := [(0, q_X0_clear_0)]
theorem bk_X0_clear : zchB 0 b_X0_clear = true := by decide +kernel
theorem hy_X0_clear {ρ : Type} {X : zX} (hX : zHX X) : zHY X 0 (zc0 (ρ := ρ)) := zHX.hY hX (zc0_ok X) (zmok_all 0 (by decide))
theorem t_X0_clear_0 {G : Nat → zH → List zAV → List zAV → Option zH} (es : List zEnt) (σ : zH) (i0 : Nat)  (w1 : Int32) : zev zc0 G 9 krV (zE 0 (.aload_n 0) 1 :: zEk 1 (.iconst 0) 1 w1 :: es) σ [vR 0 i0] [] = zev zc0 G 9 krV es σ [vR 0 i0] [vI w1, vR 0 i0] := rfl
theorem t_X0_clear_5 {G : Nat → zH → List zAV → List zAV → Option zH} (es : List zEnt) (σ : zH) (i0 : Nat)  (w6 : Int32) : zev zc0 G 9 krV (zE 5 (.aload_n 0) 1 :: zEk 6 (.iconst 0) 1 w6 :: es) σ [vR 0 i0] [] = zev zc0 G 9 krV es σ [vR 0 i0] [vI w6, vR 0 i0] := rfl
theorem t_X0_clear_10 {G : Nat → zH → List zAV → List zAV → Option zH} (es : List zEnt) (σ : zH) (i0 : Nat)  (w11 : Int32) : zev zc0 G 9 krV (zE 10 (.aload_n 0) 1 :: zEk 11 (.iconst 0) 1 w11 :: es) σ [vR 0 i0] [] = zev zc0 G 9 krV es σ [vR 0 i0] [vI w11, vR 0 i0] := rfl
theorem t_X0_clear_15 {G : Nat → zH → List zAV → List zAV → Option zH} (es : List zEnt) (σ : zH) (i0 : Nat)  (w16 : Int32) : zev zc0 G 9 krV (zE 15 (.aload_n 0) 1 :: zEk 16 (.iconst 0) 1 w16 :: es) σ [vR 0 i0] [] = zev zc0 G 9 krV es σ [vR 0 i0] [vI w16, vR 0 i0] := rfl
noncomputable def d_X0_clear (σ : zH) (ia0 : Nat) : Option zH :=
  zlet (uI σ 0 ia0 0 (0 : Int32)) fun σ1 =>
  zlet (uI σ1 0 ia0 5 (0 : Int32)) fun σ2 =>
  zlet (uI σ2 0 ia0 8 (0 : Int32)) fun σ3 =>
  zlet (uI σ3 0 ia0 12 (0 : Int32)) fun σ4 =>
  some σ4
theorem e_X0_clear (σ : zH) (ia0 : Nat) : d_X0_clear σ ia0 = zin zc0 (fun t => none) 9 krV b_X0_clear 0 σ [vR 0 ia0] [] := by
  unfold d_X0_clear
  refine Eq.symm ((zin_b (es := q_X0_clear_0) rfl).trans ?_)
  refine (t_X0_clear_0 _ _ _ _).trans ?_
  refine x_pf0.trans (plt fun _ => ?_)
  refine (t_X0_clear_5 _ _ _ _).trans ?_
  refine x_pf0.trans (plt fun _ => ?_)
  refine (t_X0_clear_10 _ _ _ _).trans ?_
  refine x_pf0.trans (plt fun _ => ?_)
  refine (t_X0_clear_15 _ _ _ _).trans ?_
  refine x_pf0.trans (plt fun _ => ?_)
  exact x_vret
noncomputable def g_X0_clear {ρ : Type} (σ : zH) (av : List zAV) (q : zH → zAV → Option ρ) : Option ρ := match av with
  | [.inr (.inr (.inl (0, ia0)))] => (d_X0_clear σ ia0).bind fun σ => q σ vU
  | _ => none
theorem gr_X0_clear {ρ : Type} (σ : zH) (ia0 : Nat) (q : zH → zAV → Option ρ) : g_X0_clear σ [vR 0 ia0] q = (d_X0_clear σ ia0).bind fun σ => q σ vU := rfl
theorem c_X0_clear {ρ : Type} {X : zX} (hX : zHX X) {σ : zH} {av : List zAV} {q : zH → zAV → Option ρ} {r : ρ} (h : g_X0_clear σ av q = some r) (hv : ∀ a ∈ av, zval X a) : zcon X 0 σ av q r := by
  unfold g_X0_clear at h
  split at h
  · exact zcon_V (n := 0) (ml := 1) (rc := 9) (st := 0) (kd := 0) (np := 0) (by decide +kernel) rfl ⟨_, _, rfl, rfl⟩ (Nat.le_of_ble_eq_true rfl) hv h (fun y h1 => (zin_ok (hy_X0_clear hX) bk_X0_clear (fun t f hf => by
      cases hf) ((e_X0_clear _ _).symm.trans h1)))
  · cases h
/-! SleepWaves$Camp.copyFrom(LSleepWaves$Camp;)V -/
def q_X0_copyFrom_167 : List zEnt := zE 167 .return_ 1 :: []
def q_X0_copyFrom_164 : List zEnt := zEf 164 (.putfield 49) 3 0 12 73 (0, 0, 0) :: q_X0_copyFrom_167
def q_X0_copyFrom_159 : List zEnt := zE 159 (.aload_n 0) 1 :: zE 160 (.aload_n 1) 1 :: zEf 161 (.getfield 49) 3 0 12 73 (0, 0, 0) :: q_X0_copyFrom_164
def q_X0_copyFrom_156 : List zEnt := zEc 156 (.invokestatic 52) 3 9004 0 670 0 :: q_X0_copyFrom_159
def q_X0_copyFrom_144 : List zEnt := zE 144 (.aload_n 1) 1 :: zEf 145 (.getfield 36) 3 0 11 71 (1, 20, 0) :: zEk 148 (.iconst 0) 1 0 :: zE 149 (.aload_n 0) 1 :: zEf 150 (.getfield 36) 3 0 11 71 (1, 20, 0) :: zEk 153 (.iconst 0) 1 0 :: zEk 154 (.bipush 8) 2 8 :: q_X0_copyFrom_156
def q_X0_copyFrom_141 : List zEnt := zEc 141 (.invokestatic 52) 3 9004 0 670 0 :: q_X0_copyFrom_144
def q_X0_copyFrom_129 : List zEnt := zE 129 (.aload_n 1) 1 :: zEf 130 (.getfield 33) 3 0 10 69 (1, 19, 0) :: zEk 133 (.iconst 0) 1 0 :: zE 134 (.aload_n 0) 1 :: zEf 135 (.getfield 33) 3 0 10 69 (1, 19, 0) :: zEk 138 (.iconst 0) 1 0 :: zEk 139 (.bipush 8) 2 8 :: q_X0_copyFrom_141
def q_X0_copyFrom_126 : List zEnt := zEc 126 (.invokestatic 52) 3 9004 0 670 0 :: q_X0_copyFrom_129
def q_X0_copyFrom_114 : List zEnt := zE 114 (.aload_n 1) 1 :: zEf 115 (.getfield 30) 3 0 9 67 (1, 18, 0) :: zEk 118 (.iconst 0) 1 0 :: zE 119 (.aload_n 0) 1 :: zEf 120 (.getfield 30) 3 0 9 67 (1, 18, 0) :: zEk 123 (.iconst 0) 1 0 :: zEk 124 (.bipush 8) 2 8 :: q_X0_copyFrom_126
def q_X0_copyFrom_111 : List zEnt := zEf 111 (.putfield 46) 3 0 8 64 (0, 0, 0) :: q_X0_copyFrom_114
def q_X0_copyFrom_106 : List zEnt := zE 106 (.aload_n 0) 1 :: zE 107 (.aload_n 1) 1 :: zEf 108 (.getfield 46) 3 0 8 64 (0, 0, 0) :: q_X0_copyFrom_111
def q_X0_copyFrom_103 : List zEnt := zEc 103 (.invokestatic 52) 3 9004 0 670 0 :: q_X0_copyFrom_106
def q_X0_copyFrom_91 : List zEnt := zE 91 (.aload_n 1) 1 :: zEf 92 (.getfield 27) 3 0 7 61 (1, 17, 0) :: zEk 95 (.iconst 0) 1 0 :: zE 96 (.aload_n 0) 1 :: zEf 97 (.getfield 27) 3 0 7 61 (1, 17, 0) :: zEk 100 (.iconst 0) 1 0 :: zEk 101 (.bipush 8) 2 8 :: q_X0_copyFrom_103
def q_X0_copyFrom_88 : List zEnt := zEc 88 (.invokestatic 52) 3 9004 0 670 0 :: q_X0_copyFrom_91
def q_X0_copyFrom_76 : List zEnt := zE 76 (.aload_n 1) 1 :: zEf 77 (.getfield 24) 3 0 6 59 (1, 16, 0) :: zEk 80 (.iconst 0) 1 0 :: zE 81 (.aload_n 0) 1 :: zEf 82 (.getfield 24) 3 0 6 59 (1, 16, 0) :: zEk 85 (.iconst 0) 1 0 :: zEk 86 (.bipush 8) 2 8 :: q_X0_copyFrom_88
def q_X0_copyFrom_73 : List zEnt := zEf 73 (.putfield 43) 3 0 5 55 (0, 0, 0) :: q_X0_copyFrom_76
def q_X0_copyFrom_68 : List zEnt := zE 68 (.aload_n 0) 1 :: zE 69 (.aload_n 1) 1 :: zEf 70 (.getfield 43) 3 0 5 55 (0, 0, 0) :: q_X0_copyFrom_73
def q_X0_copyFrom_65 : List zEnt := zEc 65 (.invokestatic 52) 3 9004 0 670 0 :: q_X0_copyFrom_68
def q_X0_copyFrom_53 : List zEnt := zE 53 (.aload_n 1) 1 :: zEf 54 (.getfield 21) 3 0 4 51 (1, 15, 0) :: zEk 57 (.iconst 0) 1 0 :: zE 58 (.aload_n 0) 1 :: zEf 59 (.getfield 21) 3 0 4 51 (1, 15, 0) :: zEk 62 (.iconst 0) 1 0 :: zEk 63 (.bipush 12) 2 12 :: q_X0_copyFrom_65
def q_X0_copyFrom_50 : List zEnt := zEc 50 (.invokestatic 52) 3 9004 0 670 0 :: q_X0_copyFrom_53
def q_X0_copyFrom_38 : List zEnt := zE 38 (.aload_n 1) 1 :: zEf 39 (.getfield 18) 3 0 3 45 (1, 14, 0) :: zEk 42 (.iconst 0) 1 0 :: zE 43 (.aload_n 0) 1 :: zEf 44 (.getfield 18) 3 0 3 45 (1, 14, 0) :: zEk 47 (.iconst 0) 1 0 :: zEk 48 (.bipush 12) 2 12 :: q_X0_copyFrom_50
def q_X0_copyFrom_35 : List zEnt := zEc 35 (.invokestatic 52) 3 9004 0 670 0 :: q_X0_copyFrom_38
def q_X0_copyFrom_23 : List zEnt := zE 23 (.aload_n 1) 1 :: zEf 24 (.getfield 15) 3 0 2 40 (1, 13, 0) :: zEk 27 (.iconst 0) 1 0 :: zE 28 (.aload_n 0) 1 :: zEf 29 (.getfield 15) 3 0 2 40 (1, 13, 0) :: zEk 32 (.iconst 0) 1 0 :: zEk 33 (.bipush 12) 2 12 :: q_X0_copyFrom_35
def q_X0_copyFrom_20 : List zEnt := zEc 20 (.invokestatic 52) 3 9004 0 670 0 :: q_X0_copyFrom_23
def q_X0_copyFrom_8 : List zEnt := zE 8 (.aload_n 1) 1 :: zEf 9 (.getfield 9) 3 0 1 36 (1, 12, 0) :: zEk 12 (.iconst 0) 1 0 :: zE 13 (.aload_n 0) 1 :: zEf 14 (.getfield 9) 3 0 1 36 (1, 12, 0) :: zEk 17 (.iconst 0) 1 0 :: zEk 18 (.bipush 12) 2 12 :: q_X0_copyFrom_20
def q_X0_copyFrom_5 : List zEnt := zEf 5 (.putfield 39) 3 0 0 30 (0, 0, 0) :: q_X0_copyFrom_8
def q_X0_copyFrom_0 : List zEnt := zE 0 (.aload_n 0) 1 :: zE 1 (.aload_n 1) 1 :: zEf 2 (.getfield 39) 3 0 0 30 (0, 0, 0) :: q_X0_copyFrom_5
def b_X0_copyFrom : List (Nat × List zEnt) := [(0, q_X0_copyFrom_0)]
theorem bk_X0_copyFrom : zchB 1 b_X0_copyFrom = true := by decide +kernel
theorem hy_X0_copyFrom {ρ : Type} {X : zX} (hX : zHX X) : zHY X 1 (zc0 (ρ := ρ)) := zHX.hY hX (zc0_ok X) (zmok_all 1 (by decide))
theorem t_X0_copyFrom_0 {G : Nat → zH → List zAV → List zAV → Option zH} (es : List zEnt) (σ : zH) (i0 : Nat) (i1 : Nat)   : zev zc0 G 9 krV (zE 0 (.aload_n 0) 1 :: zE 1 (.aload_n 1) 1 :: zEf 2 (.getfield 39) 3 0 0 30 (0, 0, 0) :: es) σ [vR 0 i0, vR 0 i1] [] = zev zc0 G 9 krV es σ [vR 0 i0, vR 0 i1] [vI (σ.1 0 i1 0), vR 0 i0] := rfl
theorem t_X0_copyFrom_8 {G : Nat → zH → List zAV → List zAV → Option zH} (es : List zEnt) (σ : zH) (i0 : Nat) (i1 : Nat)  (w12 : Int32) (w17 : Int32) (w18 : Int32) : zev zc0 G 9 krV (zE 8 (.aload_n 1) 1 :: zEf 9 (.getfield 9) 3 0 1 36 (1, 12, 0) :: zEk 12 (.iconst 0) 1 w12 :: zE 13 (.aload_n 0) 1 :: zEf 14 (.getfield 9) 3 0 1 36 (1, 12, 0) :: zEk 17 (.iconst 0) 1 w17 :: zEk 18 (.bipush 12) 2 w18 :: es) σ [vR 0 i0, vR 0 i1] [] = zev zc0 G 9 krV es σ [vR 0 i0, vR 0 i1] [vI w18, vI w17, vR 12 (i0 + 0), vI w12, vR 12 (i1 + 0)] := rfl
theorem t_X0_copyFrom_23 {G : Nat → zH → List zAV → List zAV → Option zH} (es : List zEnt) (σ : zH) (i0 : Nat) (i1 : Nat)  (w27 : Int32) (w32 : Int32) (w33 : Int32) : zev zc0 G 9 krV (zE 23 (.aload_n 1) 1 :: zEf 24 (.getfield 15) 3 0 2 40 (1, 13, 0) :: zEk 27 (.iconst 0) 1 w27 :: zE 28 (.aload_n 0) 1 :: zEf 29 (.getfield 15) 3 0 2 40 (1, 13, 0) :: zEk 32 (.iconst 0) 1 w32 :: zEk 33 (.bipush 12) 2 w33 :: es) σ [vR 0 i0, vR 0 i1] [] = zev zc0 G 9 krV es σ [vR 0 i0, vR 0 i1] [vI w33, vI w32, vR 13 (i0 + 0), vI w27, vR 13 (i1 + 0)] := rfl
theorem t_X0_copyFrom_38 {G : Nat → zH → List zAV → List zAV → Option zH} (es : List zEnt) (σ : zH) (i0 : Nat) (i1 : Nat)  (w42 : Int32) (w47 : Int32) (w48 : Int32) : zev zc0 G 9 krV (zE 38 (.aload_n 1) 1 :: zEf 39 (.getfield 18) 3 0 3 45 (1, 14, 0) :: zEk 42 (.iconst 0) 1 w42 :: zE 43 (.aload_n 0) 1 :: zEf 44 (.getfield 18) 3 0 3 45 (1, 14, 0) :: zEk 47 (.iconst 0) 1 w47 :: zEk 48 (.bipush 12) 2 w48 :: es) σ [vR 0 i0, vR 0 i1] [] = zev zc0 G 9 krV es σ [vR 0 i0, vR 0 i1] [vI w48, vI w47, vR 14 (i0 + 0), vI w42, vR 14 (i1 + 0)] := rfl
theorem t_X0_copyFrom_53 {G : Nat → zH → List zAV → List zAV → Option zH} (es : List zEnt) (σ : zH) (i0 : Nat) (i1 : Nat)  (w57 : Int32) (w62 : Int32) (w63 : Int32) : zev zc0 G 9 krV (zE 53 (.aload_n 1) 1 :: zEf 54 (.getfield 21) 3 0 4 51 (1, 15, 0) :: zEk 57 (.iconst 0) 1 w57 :: zE 58 (.aload_n 0) 1 :: zEf 59 (.getfield 21) 3 0 4 51 (1, 15, 0) :: zEk 62 (.iconst 0) 1 w62 :: zEk 63 (.bipush 12) 2 w63 :: es) σ [vR 0 i0, vR 0 i1] [] = zev zc0 G 9 krV es σ [vR 0 i0, vR 0 i1] [vI w63, vI w62, vR 15 (i0 + 0), vI w57, vR 15 (i1 + 0)] := rfl
theorem t_X0_copyFrom_68 {G : Nat → zH → List zAV → List zAV → Option zH} (es : List zEnt) (σ : zH) (i0 : Nat) (i1 : Nat)   : zev zc0 G 9 krV (zE 68 (.aload_n 0) 1 :: zE 69 (.aload_n 1) 1 :: zEf 70 (.getfield 43) 3 0 5 55 (0, 0, 0) :: es) σ [vR 0 i0, vR 0 i1] [] = zev zc0 G 9 krV es σ [vR 0 i0, vR 0 i1] [vI (σ.1 0 i1 5), vR 0 i0] := rfl
theorem t_X0_copyFrom_76 {G : Nat → zH → List zAV → List zAV → Option zH} (es : List zEnt) (σ : zH) (i0 : Nat) (i1 : Nat)  (w80 : Int32) (w85 : Int32) (w86 : Int32) : zev zc0 G 9 krV (zE 76 (.aload_n 1) 1 :: zEf 77 (.getfield 24) 3 0 6 59 (1, 16, 0) :: zEk 80 (.iconst 0) 1 w80 :: zE 81 (.aload_n 0) 1 :: zEf 82 (.getfield 24) 3 0 6 59 (1, 16, 0) :: zEk 85 (.iconst 0) 1 w85 :: zEk 86 (.bipush 8) 2 w86 :: es) σ [vR 0 i0, vR 0 i1] [] = zev zc0 G 9 krV es σ [vR 0 i0, vR 0 i1] [vI w86, vI w85, vR 16 (i0 + 0), vI w80, vR 16 (i1 + 0)] := rfl
theorem t_X0_copyFrom_91 {G : Nat → zH → List zAV → List zAV → Option zH} (es : List zEnt) (σ : zH) (i0 : Nat) (i1 : Nat)  (w95 : Int32) (w100 : Int32) (w101 : Int32) : zev zc0 G 9 krV (zE 91 (.aload_n 1) 1 :: zEf 92 (.getfield 27) 3 0 7 61 (1, 17, 0) :: zEk 95 (.iconst 0) 1 w95 :: zE 96 (.aload_n 0) 1 :: zEf 97 (.getfield 27) 3 0 7 61 (1, 17, 0) :: zEk 100 (.iconst 0) 1 w100 :: zEk 101 (.bipush 8) 2 w101 :: es) σ [vR 0 i0, vR 0 i1] [] = zev zc0 G 9 krV es σ [vR 0 i0, vR 0 i1] [vI w101, vI w100, vR 17 (i0 + 0), vI w95, vR 17 (i1 + 0)] := rfl
theorem t_X0_copyFrom_106 {G : Nat → zH → List zAV → List zAV → Option zH} (es : List zEnt) (σ : zH) (i0 : Nat) (i1 : Nat)   : zev zc0 G 9 krV (zE 106 (.aload_n 0) 1 :: zE 107 (.aload_n 1) 1 :: zEf 108 (.getfield 46) 3 0 8 64 (0, 0, 0) :: es) σ [vR 0 i0, vR 0 i1] [] = zev zc0 G 9 krV es σ [vR 0 i0, vR 0 i1] [vI (σ.1 0 i1 8), vR 0 i0] := rfl
theorem t_X0_copyFrom_114 {G : Nat → zH → List zAV → List zAV → Option zH} (es : List zEnt) (σ : zH) (i0 : Nat) (i1 : Nat)  (w118 : Int32) (w123 : Int32) (w124 : Int32) : zev zc0 G 9 krV (zE 114 (.aload_n 1) 1 :: zEf 115 (.getfield 30) 3 0 9 67 (1, 18, 0) :: zEk 118 (.iconst 0) 1 w118 :: zE 119 (.aload_n 0) 1 :: zEf 120 (.getfield 30) 3 0 9 67 (1, 18, 0) :: zEk 123 (.iconst 0) 1 w123 :: zEk 124 (.bipush 8) 2 w124 :: es) σ [vR 0 i0, vR 0 i1] [] = zev zc0 G 9 krV es σ [vR 0 i0, vR 0 i1] [vI w124, vI w123, vR 18 (i0 + 0), vI w118, vR 18 (i1 + 0)] := rfl
theorem t_X0_copyFrom_129 {G : Nat → zH → List zAV → List zAV → Option zH} (es : List zEnt) (σ : zH) (i0 : Nat) (i1 : Nat)  (w133 : Int32) (w138 : Int32) (w139 : Int32) : zev zc0 G 9 krV (zE 129 (.aload_n 1) 1 :: zEf 130 (.getfield 33) 3 0 10 69 (1, 19, 0) :: zEk 133 (.iconst 0) 1 w133 :: zE 134 (.aload_n 0) 1 :: zEf 135 (.getfield 33) 3 0 10 69 (1, 19, 0) :: zEk 138 (.iconst 0) 1 w138 :: zEk 139 (.bipush 8) 2 w139 :: es) σ [vR 0 i0, vR 0 i1] [] = zev zc0 G 9 krV es σ [vR 0 i0, vR 0 i1] [vI w139, vI w138, vR 19 (i0 + 0), vI w133, vR 19 (i1 + 0)] := rfl
theorem t_X0_copyFrom_144 {G : Nat → zH → List zAV → List zAV → Option zH} (es : List zEnt) (σ : zH) (i0 : Nat) (i1 : Nat)  (w148 : Int32) (w153 : Int32) (w154 : Int32) : zev zc0 G 9 krV (zE 144 (.aload_n 1) 1 :: zEf 145 (.getfield 36) 3 0 11 71 (1, 20, 0) :: zEk 148 (.iconst 0) 1 w148 :: zE 149 (.aload_n 0) 1 :: zEf 150 (.getfield 36) 3 0 11 71 (1, 20, 0) :: zEk 153 (.iconst 0) 1 w153 :: zEk 154 (.bipush 8) 2 w154 :: es) σ [vR 0 i0, vR 0 i1] [] = zev zc0 G 9 krV es σ [vR 0 i0, vR 0 i1] [vI w154, vI w153, vR 20 (i0 + 0), vI w148, vR 20 (i1 + 0)] := rfl
theorem t_X0_copyFrom_159 {G : Nat → zH → List zAV → List zAV → Option zH} (es : List zEnt) (σ : zH) (i0 : Nat) (i1 : Nat)   : zev zc0 G 9 krV (zE 159 (.aload_n 0) 1 :: zE 160 (.aload_n 1) 1 :: zEf 161 (.getfield 49) 3 0 12 73 (0, 0, 0) :: es) σ [vR 0 i0, vR 0 i1] [] = zev zc0 G 9 krV es σ [vR 0 i0, vR 0 i1] [vI (σ.1 0 i1 12), vR 0 i0] := rfl
noncomputable def d_X0_copyFrom (σ : zH) (ia0 : Nat) (ia1 : Nat) : Option zH :=
  zlet (uI σ 0 ia0 0 (σ.1 0 ia1 0)) fun σ1 =>
  zlet (cpI σ1 12 (ia1 + 0) 12 (ia0 + 0) 0 0 12) fun σ2 =>
  zlet (cpI σ2 13 (ia1 + 0) 13 (ia0 + 0) 0 0 12) fun σ3 =>
  zlet (cpI σ3 14 (ia1 + 0) 14 (ia0 + 0) 0 0 12) fun σ4 =>
  zlet (cpI σ4 15 (ia1 + 0) 15 (ia0 + 0) 0 0 12) fun σ5 =>
  zlet (uI σ5 0 ia0 5 (σ5.1 0 ia1 5)) fun σ6 =>
  zlet (cpI σ6 16 (ia1 + 0) 16 (ia0 + 0) 0 0 8) fun σ7 =>
  zlet (cpI σ7 17 (ia1 + 0) 17 (ia0 + 0) 0 0 8) fun σ8 =>
  zlet (uI σ8 0 ia0 8 (σ8.1 0 ia1 8)) fun σ9 =>
  zlet (cpI σ9 18 (ia1 + 0) 18 (ia0 + 0) 0 0 8) fun σ10 =>
  zlet (cpI σ10 19 (ia1 + 0) 19 (ia0 + 0) 0 0 8) fun σ11 =>
  zlet (cpI σ11 20 (ia1 + 0) 20 (ia0 + 0) 0 0 8) fun σ12 =>
  zlet (uI σ12 0 ia0 12 (σ12.1 0 ia1 12)) fun σ13 =>
  some σ13
theorem e_X0_copyFrom (σ : zH) (ia0 : Nat) (ia1 : Nat) : d_X0_copyFrom σ ia0 ia1 = zin zc0 (fun t => none) 9 krV b_X0_copyFrom 0 σ [vR 0 ia0, vR 0 ia1] [] := by
  unfold d_X0_copyFrom
  refine Eq.symm ((zin_b (es := q_X0_copyFrom_0) rfl).trans ?_)
  refine (t_X0_copyFrom_0 _ _ _ _).trans ?_
  refine x_pf0.trans (plt fun _ => ?_)
  refine (t_X0_copyFrom_8 _ _ _ _ _ _ _).trans ?_
  refine (x_copy (a := 0) (b := 0) (c := 12) rfl rfl rfl (by decide +kernel)).trans (plt fun _ => ?_)
  refine (t_X0_copyFrom_23 _ _ _ _ _ _ _).trans ?_
  refine (x_copy (a := 0) (b := 0) (c := 12) rfl rfl rfl (by decide +kernel)).trans (plt fun _ => ?_)
  refine (t_X0_copyFrom_38 _ _ _ _ _ _ _).trans ?_
  refine (x_copy (a := 0) (b := 0) (c := 12) rfl rfl rfl (by decide +kernel)).trans (plt fun _ => ?_)
  refine (t_X0_copyFrom_53 _ _ _ _ _ _ _).trans ?_
  refine (x_copy (a := 0) (b := 0) (c := 12) rfl rfl rfl (by decide +kernel)).trans (plt fun _ => ?_)
  refine (t_X0_copyFrom_68 _ _ _ _).trans ?_
  refine x_pf0.trans (plt fun _ => ?_)
  refine (t_X0_copyFrom_76 _ _ _ _ _ _ _).trans ?_
  refine (x_copy (a := 0) (b := 0) (c := 8) rfl rfl rfl (by decide +kernel)).trans (plt fun _ => ?_)
  refine (t_X0_copyFrom_91 _ _ _ _ _ _ _).trans ?_
  refine (x_copy (a := 0) (b := 0) (c := 8) rfl rfl rfl (by decide +kernel)).trans (plt fun _ => ?_)
  refine (t_X0_copyFrom_106 _ _ _ _).trans ?_
  refine x_pf0.trans (plt fun _ => ?_)
  refine (t_X0_copyFrom_114 _ _ _ _ _ _ _).trans ?_
  refine (x_copy (a := 0) (b := 0) (c := 8) rfl rfl rfl (by decide +kernel)).trans (plt fun _ => ?_)
  refine (t_X0_copyFrom_129 _ _ _ _ _ _ _).trans ?_
  refine (x_copy (a := 0) (b := 0) (c := 8) rfl rfl rfl (by decide +kernel)).trans (plt fun _ => ?_)
  refine (t_X0_copyFrom_144 _ _ _ _ _ _ _).trans ?_
  refine (x_copy (a := 0) (b := 0) (c := 8) rfl rfl rfl (by decide +kernel)).trans (plt fun _ => ?_)
  refine (t_X0_copyFrom_159 _ _ _ _).trans ?_
  refine x_pf0.trans (plt fun _ => ?_)
  exact x_vret
noncomputable def g_X0_copyFrom {ρ : Type} (σ : zH) (av : List zAV) (q : zH → zAV → Option ρ) : Option ρ := match av with
  | [.inr (.inr (.inl (0, ia0))), .inr (.inr (.inl (0, ia1)))] => (d_X0_copyFrom σ ia0 ia1).bind fun σ => q σ vU
  | _ => none
theorem gr_X0_copyFrom {ρ : Type} (σ : zH) (ia0 : Nat) (ia1 : Nat) (q : zH → zAV → Option ρ) : g_X0_copyFrom σ [vR 0 ia0, vR 0 ia1] q = (d_X0_copyFrom σ ia0 ia1).bind fun σ => q σ vU := rfl
theorem c_X0_copyFrom {ρ : Type} {X : zX} (hX : zHX X) {σ : zH} {av : List zAV} {q : zH → zAV → Option ρ} {r : ρ} (h : g_X0_copyFrom σ av q = some r) (hv : ∀ a ∈ av, zval X a) : zcon X 1 σ av q r := by
  unfold g_X0_copyFrom at h
  split at h
  · exact zcon_V (n := 1) (ml := 2) (rc := 9) (st := 0) (kd := 0) (np := 1) (by decide +kernel) rfl ⟨_, _, rfl, rfl⟩ (Nat.le_of_ble_eq_true rfl) hv h (fun y h1 => (zin_ok (hy_X0_copyFrom hX) bk_X0_copyFrom (fun t f hf => by
      cases hf) ((e_X0_copyFrom _ _ _).symm.trans h1)))
  · cases h
/-! SleepWaves$Camp.firstBell(I)I -/
def q_X0_firstBell_0 : List zEnt := zEk 0 (.iconst 0) 1 0 :: zE 1 (.istore_n 2) 1 :: [zE 2 .nop 0]
def q_X0_firstBell_21 : List zEnt := zE 21 .ireturn 1 :: []
def q_X0_firstBell_20 : List zEnt := zE 20 (.iload_n 2) 1 :: q_X0_firstBell_21
def q_X0_firstBell_17 : List zEnt := zEa 17 (.if_icmp .ne 5) 3 22 :: q_X0_firstBell_20
def q_X0_firstBell_16 : List zEnt := zE 16 (.iload_n 1) 1 :: q_X0_firstBell_17
def q_X0_firstBell_15 : List zEnt := zE 15 .iaload 1 :: q_X0_firstBell_16
def q_X0_firstBell_10 : List zEnt := zE 10 (.aload_n 0) 1 :: zEf 11 (.getfield 24) 3 0 6 59 (1, 16, 0) :: zE 14 (.iload_n 2) 1 :: q_X0_firstBell_15
def q_X0_firstBell_7 : List zEnt := zEa 7 (.if_icmp .ge 21) 3 28 :: q_X0_firstBell_10
def q_X0_firstBell_2 : List zEnt := zE 2 (.iload_n 2) 1 :: zE 3 (.aload_n 0) 1 :: zEf 4 (.getfield 43) 3 0 5 55 (0, 0, 0) :: q_X0_firstBell_7
def q_X0_firstBell_25 : List zEnt := zEa 25 (.goto (-23)) 3 2 :: []
def q_X0_firstBell_22 : List zEnt := zEk 22 (.iinc 2 1) 3 1 :: q_X0_firstBell_25
def q_X0_firstBell_29 : List zEnt := zE 29 .ireturn 1 :: []
def q_X0_firstBell_28 : List zEnt := zEk 28 (.iconst (-1)) 1 (-1) :: q_X0_firstBell_29
def b_X0_firstBell : List (Nat × List zEnt) := [(0, q_X0_firstBell_0), (2, q_X0_firstBell_2), (22, q_X0_firstBell_22), (28, q_X0_firstBell_28)]
theorem bk_X0_firstBell : zchB 2 b_X0_firstBell = true := by decide +kernel
theorem hy_X0_firstBell {ρ : Type} {X : zX} (hX : zHX X) : zHY X 2 (zc0 (ρ := ρ)) := zHX.hY hX (zc0_ok X) (zmok_all 2 (by decide))
def gl_X0_firstBell_2 {ρ : Type} (f : zH → Nat → Int32 → Int32 → Option ρ) (σ : zH) (L st : List zAV) : Option ρ := match L, st with
  | [.inr (.inr (.inl (0, i0))), .inl x1, .inl x2], [] => f σ i0 x1 x2
  | _, _ => none
theorem glr_X0_firstBell_2 {ρ : Type} (f : zH → Nat → Int32 → Int32 → Option ρ) (σ : zH) (i0 : Nat) (x1 : Int32) (x2 : Int32)  : gl_X0_firstBell_2 f σ [vR 0 i0, vI x1, vI x2] [] = f σ i0 x1 x2 := rfl
theorem t_X0_firstBell_0 {G : Nat → zH → List zAV → List zAV → Option (zH × Int32)} (es : List zEnt) (σ : zH) (i0 : Nat) (x1 : Int32) (y2 : zAV) (w0 : Int32) : zev zc0 G 0 krI (zEk 0 (.iconst 0) 1 w0 :: zE 1 (.istore_n 2) 1 :: es) σ [vR 0 i0, vI x1, y2] [] = zev zc0 G 0 krI es σ [vR 0 i0, vI x1, vI w0] [] := rfl
theorem t_X0_firstBell_2 {G : Nat → zH → List zAV → List zAV → Option (zH × Int32)} (es : List zEnt) (σ : zH) (i0 : Nat) (x1 : Int32) (x2 : Int32)   : zev zc0 G 0 krI (zE 2 (.iload_n 2) 1 :: zE 3 (.aload_n 0) 1 :: zEf 4 (.getfield 43) 3 0 5 55 (0, 0, 0) :: es) σ [vR 0 i0, vI x1, vI x2] [] = zev zc0 G 0 krI es σ [vR 0 i0, vI x1, vI x2] [vI (σ.1 0 i0 5), vI x2] := rfl
theorem t_X0_firstBell_10 {G : Nat → zH → List zAV → List zAV → Option (zH × Int32)} (es : List zEnt) (σ : zH) (i0 : Nat) (x1 : Int32) (x2 : Int32)   : zev zc0 G 0 krI (zE 10 (.aload_n 0) 1 :: zEf 11 (.getfield 24) 3 0 6 59 (1, 16, 0) :: zE 14 (.iload_n 2) 1 :: es) σ [vR 0 i0, vI x1, vI x2] [] = zev zc0 G 0 krI es σ [vR 0 i0, vI x1, vI x2] [vI x2, vR 16 (i0 + 0)] := rfl
theorem t_X0_firstBell_16 {G : Nat → zH → List zAV → List zAV → Option (zH × Int32)} (es : List zEnt) (σ : zH) (i0 : Nat) (x1 : Int32) (x2 : Int32) (xs0 : Int32)   : zev zc0 G 0 krI (zE 16 (.iload_n 1) 1 :: es) σ [vR 0 i0, vI x1, vI x2] [vI xs0] = zev zc0 G 0 krI es σ [vR 0 i0, vI x1, vI x2] [vI x1, vI xs0] := rfl
theorem t_X0_firstBell_20 {G : Nat → zH → List zAV → List zAV → Option (zH × Int32)} (es : List zEnt) (σ : zH) (x2 : Int32) (y0 : zAV) (y1 : zAV)  : zev zc0 G 0 krI (zE 20 (.iload_n 2) 1 :: es) σ [y0, y1, vI x2] [] = zev zc0 G 0 krI es σ [y0, y1, vI x2] [vI x2] := rfl
theorem t_X0_firstBell_22 {G : Nat → zH → List zAV → List zAV → Option (zH × Int32)} (es : List zEnt) (σ : zH) (i0 : Nat) (x1 : Int32) (x2 : Int32)  (w22 : Int32) : zev zc0 G 0 krI (zEk 22 (.iinc 2 1) 3 w22 :: es) σ [vR 0 i0, vI x1, vI x2] [] = zev zc0 G 0 krI es σ [vR 0 i0, vI x1, vI (x2 + w22)] [] := rfl
theorem t_X0_firstBell_28 {G : Nat → zH → List zAV → List zAV → Option (zH × Int32)} (es : List zEnt) (σ : zH)  (y0 : zAV) (y1 : zAV) (y2 : zAV) (w28 : Int32) : zev zc0 G 0 krI (zEk 28 (.iconst (-1)) 1 w28 :: es) σ [y0, y1, y2] [] = zev zc0 G 0 krI es σ [y0, y1, y2] [vI w28] := rfl
noncomputable def k_X0_firstBell_2  : Nat → zH → Nat → Int32 → Int32 → Option (zH × Int32)
  | 0, _, _, _, _ => none
  | n + 1, σ, i0, x1, x2 =>
    if x2 < (σ.1 0 i0 5) then
      ix x2 8 fun j1 =>
      if (σ.1 16 (i0 + 0) j1) = x1 then
        some (σ, x2)
      else
        (k_X0_firstBell_2 n) σ i0 x1 (x2 + (1 : Int32))
    else
      some (σ, (-1 : Int32))
theorem e_X0_firstBell_2  (n : Nat) (σ : zH) (i0 : Nat) (x1 : Int32) (x2 : Int32)  : k_X0_firstBell_2 (n + 1) σ i0 x1 x2 = zin zc0 (fun t => if t = 2 then some (gl_X0_firstBell_2 (k_X0_firstBell_2 n)) else none) 0 krI b_X0_firstBell 2 σ [vR 0 i0, vI x1, vI x2] [] := by
  rw [k_X0_firstBell_2]
  refine Eq.symm ((zin_b (es := q_X0_firstBell_2) rfl).trans ?_)
  refine (t_X0_firstBell_2 _ _ _ _ _).trans ?_
  refine x_icmp.trans (pif_ge ?_ ?_)
  · refine (zrun_b (es := q_X0_firstBell_28) rfl rfl).trans ?_
    refine (t_X0_firstBell_28 _ _ _ _ _ _).trans ?_
    exact x_iret
  · refine (t_X0_firstBell_10 _ _ _ _ _).trans ?_
    refine (x_iald (N := 8) rfl rfl).trans (pix fun _ => ?_)
    refine (t_X0_firstBell_16 _ _ _ _ _ _).trans ?_
    refine x_icmp.trans (pif_ne ?_ ?_)
    · refine (zrun_b (es := q_X0_firstBell_22) rfl rfl).trans ?_
      refine (t_X0_firstBell_22 _ _ _ _ _ _).trans ?_
      refine x_goto.trans ?_
      exact (zrun_c rfl).trans (glr_X0_firstBell_2 _ _ _ _ _)
    · refine (t_X0_firstBell_20 _ _ _ _ _).trans ?_
      exact x_iret
theorem s_X0_firstBell_2 {X : zX} (hX : zHX X)   : ∀ n σ L st r, gl_X0_firstBell_2 (k_X0_firstBell_2 n) σ L st = some r → zGW X 2 krI 2 σ L st r := by
  intro n
  induction n with
  | zero =>
    intro σ L st r h
    unfold gl_X0_firstBell_2 at h
    split at h <;> cases h
  | succ n ih =>
    intro σ L st r h
    unfold gl_X0_firstBell_2 at h
    split at h
    · exact zin_ok (hy_X0_firstBell hX) bk_X0_firstBell (fun t f hf => by
      by_cases e2 : t = 2
      · rw [if_pos e2] at hf; subst e2; cases hf; exact ih
      rw [if_neg e2] at hf
      cases hf) ((e_X0_firstBell_2 _ _ _ _ _).symm.trans h)
    · cases h
noncomputable def d_X0_firstBell (σ : zH) (ia0 : Nat) (xa1 : Int32) : Option (zH × Int32) :=
  (k_X0_firstBell_2 zN) σ ia0 xa1 (0 : Int32)
theorem e_X0_firstBell (σ : zH) (ia0 : Nat) (xa1 : Int32) : d_X0_firstBell σ ia0 xa1 = zin zc0 (fun t => if t = 2 then some (gl_X0_firstBell_2 (k_X0_firstBell_2 zN)) else none) 0 krI b_X0_firstBell 0 σ [vR 0 ia0, vI xa1, vU] [] := by
  unfold d_X0_firstBell
  refine Eq.symm ((zin_b (es := q_X0_firstBell_0) rfl).trans ?_)
  refine (t_X0_firstBell_0 _ _ _ _ _ _).trans ?_
  refine x_cut.trans ?_
  exact (zrun_c rfl).trans (glr_X0_firstBell_2 _ _ _ _ _)
noncomputable def g_X0_firstBell {ρ : Type} (σ : zH) (av : List zAV) (q : zH → zAV → Option ρ) : Option ρ := match av with
  | [.inr (.inr (.inl (0, ia0))), .inl xa1] => (d_X0_firstBell σ ia0 xa1).bind fun p => q p.1 (vI p.2)
  | _ => none
theorem gr_X0_firstBell {ρ : Type} (σ : zH) (ia0 : Nat) (xa1 : Int32) (q : zH → zAV → Option ρ) : g_X0_firstBell σ [vR 0 ia0, vI xa1] q = (d_X0_firstBell σ ia0 xa1).bind fun p => q p.1 (vI p.2) := rfl
theorem c_X0_firstBell {ρ : Type} {X : zX} (hX : zHX X) {σ : zH} {av : List zAV} {q : zH → zAV → Option ρ} {r : ρ} (h : g_X0_firstBell σ av q = some r) (hv : ∀ a ∈ av, zval X a) : zcon X 2 σ av q r := by
  unfold g_X0_firstBell at h
  split at h
  · exact zcon_I (n := 2) (ml := 3) (rc := 0) (st := 0) (kd := 0) (np := 1) (by decide +kernel) (by decide) ⟨_, _, rfl, rfl⟩ (Nat.le_of_ble_eq_true rfl) hv h (fun y h1 => (zin_ok (hy_X0_firstBell hX) bk_X0_firstBell (fun t f hf => by
      by_cases e2 : t = 2
      · rw [if_pos e2] at hf; subst e2; cases hf; exact ((fun σ L st r h => s_X0_firstBell_2 hX  zN σ L st r h))
      rw [if_neg e2] at hf
      cases hf) ((e_X0_firstBell _ _ _).symm.trans h1)))
  · cases h
/-! SleepWaves$Camp.firstDuty(II)I -/
def q_X0_firstDuty_0 : List zEnt := zEk 0 (.iconst 0) 1 0 :: zE 1 (.istore_n 3) 1 :: [zE 2 .nop 0]
def q_X0_firstDuty_41 : List zEnt := zE 41 .ireturn 1 :: []
def q_X0_firstDuty_40 : List zEnt := zE 40 (.iload_n 3) 1 :: q_X0_firstDuty_41
def q_X0_firstDuty_37 : List zEnt := zEa 37 (.if_icmp .gt 5) 3 42 :: q_X0_firstDuty_40
def q_X0_firstDuty_36 : List zEnt := zE 36 .iaload 1 :: q_X0_firstDuty_37
def q_X0_firstDuty_30 : List zEnt := zE 30 (.iload_n 2) 1 :: zE 31 (.aload_n 0) 1 :: zEf 32 (.getfield 36) 3 0 11 71 (1, 20, 0) :: zE 35 (.iload_n 3) 1 :: q_X0_firstDuty_36
def q_X0_firstDuty_27 : List zEnt := zEa 27 (.if_icmp .gt 15) 3 42 :: q_X0_firstDuty_30
def q_X0_firstDuty_26 : List zEnt := zE 26 (.iload_n 2) 1 :: q_X0_firstDuty_27
def q_X0_firstDuty_25 : List zEnt := zE 25 .iaload 1 :: q_X0_firstDuty_26
def q_X0_firstDuty_20 : List zEnt := zE 20 (.aload_n 0) 1 :: zEf 21 (.getfield 33) 3 0 10 69 (1, 19, 0) :: zE 24 (.iload_n 3) 1 :: q_X0_firstDuty_25
def q_X0_firstDuty_17 : List zEnt := zEa 17 (.if_icmp .ne 25) 3 42 :: q_X0_firstDuty_20
def q_X0_firstDuty_16 : List zEnt := zE 16 (.iload_n 1) 1 :: q_X0_firstDuty_17
def q_X0_firstDuty_15 : List zEnt := zE 15 .iaload 1 :: q_X0_firstDuty_16
def q_X0_firstDuty_10 : List zEnt := zE 10 (.aload_n 0) 1 :: zEf 11 (.getfield 30) 3 0 9 67 (1, 18, 0) :: zE 14 (.iload_n 3) 1 :: q_X0_firstDuty_15
def q_X0_firstDuty_7 : List zEnt := zEa 7 (.if_icmp .ge 41) 3 48 :: q_X0_firstDuty_10
def q_X0_firstDuty_2 : List zEnt := zE 2 (.iload_n 3) 1 :: zE 3 (.aload_n 0) 1 :: zEf 4 (.getfield 46) 3 0 8 64 (0, 0, 0) :: q_X0_firstDuty_7
def q_X0_firstDuty_45 : List zEnt := zEa 45 (.goto (-43)) 3 2 :: []
def q_X0_firstDuty_42 : List zEnt := zEk 42 (.iinc 3 1) 3 1 :: q_X0_firstDuty_45
def q_X0_firstDuty_49 : List zEnt := zE 49 .ireturn 1 :: []
def q_X0_firstDuty_48 : List zEnt := zEk 48 (.iconst (-1)) 1 (-1) :: q_X0_firstDuty_49
def b_X0_firstDuty : List (Nat × List zEnt) := [(0, q_X0_firstDuty_0), (2, q_X0_firstDuty_2), (42, q_X0_firstDuty_42), (48, q_X0_firstDuty_48)]
theorem bk_X0_firstDuty : zchB 3 b_X0_firstDuty = true := by decide +kernel
theorem hy_X0_firstDuty {ρ : Type} {X : zX} (hX : zHX X) : zHY X 3 (zc0 (ρ := ρ)) := zHX.hY hX (zc0_ok X) (zmok_all 3 (by decide))
def gl_X0_firstDuty_2 {ρ : Type} (f : zH → Nat → Int32 → Int32 → Int32 → Option ρ) (σ : zH) (L st : List zAV) : Option ρ := match L, st with
  | [.inr (.inr (.inl (0, i0))), .inl x1, .inl x2, .inl x3], [] => f σ i0 x1 x2 x3
  | _, _ => none
theorem glr_X0_firstDuty_2 {ρ : Type} (f : zH → Nat → Int32 → Int32 → Int32 → Option ρ) (σ : zH) (i0 : Nat) (x1 : Int32) (x2 : Int32) (x3 : Int32)  : gl_X0_firstDuty_2 f σ [vR 0 i0, vI x1, vI x2, vI x3] [] = f σ i0 x1 x2 x3 := rfl
theorem t_X0_firstDuty_0 {G : Nat → zH → List zAV → List zAV → Option (zH × Int32)} (es : List zEnt) (σ : zH) (i0 : Nat) (x1 : Int32) (x2 : Int32) (y3 : zAV) (w0 : Int32) : zev zc0 G 0 krI (zEk 0 (.iconst 0) 1 w0 :: zE 1 (.istore_n 3) 1 :: es) σ [vR 0 i0, vI x1, vI x2, y3] [] = zev zc0 G 0 krI es σ [vR 0 i0, vI x1, vI x2, vI w0] [] := rfl
theorem t_X0_firstDuty_2 {G : Nat → zH → List zAV → List zAV → Option (zH × Int32)} (es : List zEnt) (σ : zH) (i0 : Nat) (x1 : Int32) (x2 : Int32) (x3 : Int32)   : zev zc0 G 0 krI (zE 2 (.iload_n 3) 1 :: zE 3 (.aload_n 0) 1 :: zEf 4 (.getfield 46) 3 0 8 64 (0, 0, 0) :: es) σ [vR 0 i0, vI x1, vI x2, vI x3] [] = zev zc0 G 0 krI es σ [vR 0 i0, vI x1, vI x2, vI x3] [vI (σ.1 0 i0 8), vI x3] := rfl
theorem t_X0_firstDuty_10 {G : Nat → zH → List zAV → List zAV → Option (zH × Int32)} (es : List zEnt) (σ : zH) (i0 : Nat) (x1 : Int32) (x2 : Int32) (x3 : Int32)   : zev zc0 G 0 krI (zE 10 (.aload_n 0) 1 :: zEf 11 (.getfield 30) 3 0 9 67 (1, 18, 0) :: zE 14 (.iload_n 3) 1 :: es) σ [vR 0 i0, vI x1, vI x2, vI x3] [] = zev zc0 G 0 krI es σ [vR 0 i0, vI x1, vI x2, vI x3] [vI x3, vR 18 (i0 + 0)] := rfl
theorem t_X0_firstDuty_16 {G : Nat → zH → List zAV → List zAV → Option (zH × Int32)} (es : List zEnt) (σ : zH) (i0 : Nat) (x1 : Int32) (x2 : Int32) (x3 : Int32) (xs0 : Int32)   : zev zc0 G 0 krI (zE 16 (.iload_n 1) 1 :: es) σ [vR 0 i0, vI x1, vI x2, vI x3] [vI xs0] = zev zc0 G 0 krI es σ [vR 0 i0, vI x1, vI x2, vI x3] [vI x1, vI xs0] := rfl
theorem t_X0_firstDuty_20 {G : Nat → zH → List zAV → List zAV → Option (zH × Int32)} (es : List zEnt) (σ : zH) (i0 : Nat) (x1 : Int32) (x2 : Int32) (x3 : Int32)   : zev zc0 G 0 krI (zE 20 (.aload_n 0) 1 :: zEf 21 (.getfield 33) 3 0 10 69 (1, 19, 0) :: zE 24 (.iload_n 3) 1 :: es) σ [vR 0 i0, vI x1, vI x2, vI x3] [] = zev zc0 G 0 krI es σ [vR 0 i0, vI x1, vI x2, vI x3] [vI x3, vR 19 (i0 + 0)] := rfl
theorem t_X0_firstDuty_26 {G : Nat → zH → List zAV → List zAV → Option (zH × Int32)} (es : List zEnt) (σ : zH) (i0 : Nat) (x1 : Int32) (x2 : Int32) (x3 : Int32) (xs0 : Int32)   : zev zc0 G 0 krI (zE 26 (.iload_n 2) 1 :: es) σ [vR 0 i0, vI x1, vI x2, vI x3] [vI xs0] = zev zc0 G 0 krI es σ [vR 0 i0, vI x1, vI x2, vI x3] [vI x2, vI xs0] := rfl
theorem t_X0_firstDuty_30 {G : Nat → zH → List zAV → List zAV → Option (zH × Int32)} (es : List zEnt) (σ : zH) (i0 : Nat) (x1 : Int32) (x2 : Int32) (x3 : Int32)   : zev zc0 G 0 krI (zE 30 (.iload_n 2) 1 :: zE 31 (.aload_n 0) 1 :: zEf 32 (.getfield 36) 3 0 11 71 (1, 20, 0) :: zE 35 (.iload_n 3) 1 :: es) σ [vR 0 i0, vI x1, vI x2, vI x3] [] = zev zc0 G 0 krI es σ [vR 0 i0, vI x1, vI x2, vI x3] [vI x3, vR 20 (i0 + 0), vI x2] := rfl
theorem t_X0_firstDuty_40 {G : Nat → zH → List zAV → List zAV → Option (zH × Int32)} (es : List zEnt) (σ : zH) (x3 : Int32) (y0 : zAV) (y1 : zAV) (y2 : zAV)  : zev zc0 G 0 krI (zE 40 (.iload_n 3) 1 :: es) σ [y0, y1, y2, vI x3] [] = zev zc0 G 0 krI es σ [y0, y1, y2, vI x3] [vI x3] := rfl
theorem t_X0_firstDuty_42 {G : Nat → zH → List zAV → List zAV → Option (zH × Int32)} (es : List zEnt) (σ : zH) (i0 : Nat) (x1 : Int32) (x2 : Int32) (x3 : Int32)  (w42 : Int32) : zev zc0 G 0 krI (zEk 42 (.iinc 3 1) 3 w42 :: es) σ [vR 0 i0, vI x1, vI x2, vI x3] [] = zev zc0 G 0 krI es σ [vR 0 i0, vI x1, vI x2, vI (x3 + w42)] [] := rfl
theorem t_X0_firstDuty_48 {G : Nat → zH → List zAV → List zAV → Option (zH × Int32)} (es : List zEnt) (σ : zH)  (y0 : zAV) (y1 : zAV) (y2 : zAV) (y3 : zAV) (w48 : Int32) : zev zc0 G 0 krI (zEk 48 (.iconst (-1)) 1 w48 :: es) σ [y0, y1, y2, y3] [] = zev zc0 G 0 krI es σ [y0, y1, y2, y3] [vI w48] := rfl
noncomputable def k_X0_firstDuty_2  : Nat → zH → Nat → Int32 → Int32 → Int32 → Option (zH × Int32)
  | 0, _, _, _, _, _ => none
  | n + 1, σ, i0, x1, x2, x3 =>
    if x3 < (σ.1 0 i0 8) then
      ix x3 8 fun j1 =>
      if (σ.1 18 (i0 + 0) j1) = x1 then
        ix x3 8 fun j2 =>
        if x2 < (σ.1 19 (i0 + 0) j2) then
          (k_X0_firstDuty_2 n) σ i0 x1 x2 (x3 + (1 : Int32))
        else
          ix x3 8 fun j3 =>
          if (σ.1 20 (i0 + 0) j3) < x2 then
            (k_X0_firstDuty_2 n) σ i0 x1 x2 (x3 + (1 : Int32))
          else
            some (σ, x3)
      else
        (k_X0_firstDuty_2 n) σ i0 x1 x2 (x3 + (1 : Int32))
    else
      some (σ, (-1 : Int32))
theorem e_X0_firstDuty_2  (n : Nat) (σ : zH) (i0 : Nat) (x1 : Int32) (x2 : Int32) (x3 : Int32)  : k_X0_firstDuty_2 (n + 1) σ i0 x1 x2 x3 = zin zc0 (fun t => if t = 2 then some (gl_X0_firstDuty_2 (k_X0_firstDuty_2 n)) else none) 0 krI b_X0_firstDuty 2 σ [vR 0 i0, vI x1, vI x2, vI x3] [] := by
  rw [k_X0_firstDuty_2]
  refine Eq.symm ((zin_b (es := q_X0_firstDuty_2) rfl).trans ?_)
  refine (t_X0_firstDuty_2 _ _ _ _ _ _).trans ?_
  refine x_icmp.trans (pif_ge ?_ ?_)
  · refine (zrun_b (es := q_X0_firstDuty_48) rfl rfl).trans ?_
    refine (t_X0_firstDuty_48 _ _ _ _ _ _ _).trans ?_
    exact x_iret
  · refine (t_X0_firstDuty_10 _ _ _ _ _ _).trans ?_
    refine (x_iald (N := 8) rfl rfl).trans (pix fun _ => ?_)
    refine (t_X0_firstDuty_16 _ _ _ _ _ _ _).trans ?_
    refine x_icmp.trans (pif_ne ?_ ?_)
    · refine (zrun_b (es := q_X0_firstDuty_42) rfl rfl).trans ?_
      refine (t_X0_firstDuty_42 _ _ _ _ _ _ _).trans ?_
      refine x_goto.trans ?_
      exact (zrun_c rfl).trans (glr_X0_firstDuty_2 _ _ _ _ _ _)
    · refine (t_X0_firstDuty_20 _ _ _ _ _ _).trans ?_
      refine (x_iald (N := 8) rfl rfl).trans (pix fun _ => ?_)
      refine (t_X0_firstDuty_26 _ _ _ _ _ _ _).trans ?_
      refine x_icmp.trans (pif_gt ?_ ?_)
      · refine (zrun_b (es := q_X0_firstDuty_42) rfl rfl).trans ?_
        refine (t_X0_firstDuty_42 _ _ _ _ _ _ _).trans ?_
        refine x_goto.trans ?_
        exact (zrun_c rfl).trans (glr_X0_firstDuty_2 _ _ _ _ _ _)
      · refine (t_X0_firstDuty_30 _ _ _ _ _ _).trans ?_
        refine (x_iald (N := 8) rfl rfl).trans (pix fun _ => ?_)
        refine x_icmp.trans (pif_gt ?_ ?_)
        · refine (zrun_b (es := q_X0_firstDuty_42) rfl rfl).trans ?_
          refine (t_X0_firstDuty_42 _ _ _ _ _ _ _).trans ?_
          refine x_goto.trans ?_
          exact (zrun_c rfl).trans (glr_X0_firstDuty_2 _ _ _ _ _ _)
        · refine (t_X0_firstDuty_40 _ _ _ _ _ _).trans ?_
          exact x_iret
theorem s_X0_firstDuty_2 {X : zX} (hX : zHX X)   : ∀ n σ L st r, gl_X0_firstDuty_2 (k_X0_firstDuty_2 n) σ L st = some r → zGW X 3 krI 2 σ L st r := by
  intro n
  induction n with
  | zero =>
    intro σ L st r h
    unfold gl_X0_firstDuty_2 at h
    split at h <;> cases h
  | succ n ih =>
    intro σ L st r h
    unfold gl_X0_firstDuty_2 at h
    split at h
    · exact zin_ok (hy_X0_firstDuty hX) bk_X0_firstDuty (fun t f hf => by
      by_cases e2 : t = 2
      · rw [if_pos e2] at hf; subst e2; cases hf; exact ih
      rw [if_neg e2] at hf
      cases hf) ((e_X0_firstDuty_2 _ _ _ _ _ _).symm.trans h)
    · cases h
noncomputable def d_X0_firstDuty (σ : zH) (ia0 : Nat) (xa1 : Int32) (xa2 : Int32) : Option (zH × Int32) :=
  (k_X0_firstDuty_2 zN) σ ia0 xa1 xa2 (0 : Int32)
theorem e_X0_firstDuty (σ : zH) (ia0 : Nat) (xa1 : Int32) (xa2 : Int32) : d_X0_firstDuty σ ia0 xa1 xa2 = zin zc0 (fun t => if t = 2 then some (gl_X0_firstDuty_2 (k_X0_firstDuty_2 zN)) else none) 0 krI b_X0_firstDuty 0 σ [vR 0 ia0, vI xa1, vI xa2, vU] [] := by
  unfold d_X0_firstDuty
  refine Eq.symm ((zin_b (es := q_X0_firstDuty_0) rfl).trans ?_)
  refine (t_X0_firstDuty_0 _ _ _ _ _ _ _).trans ?_
  refine x_cut.trans ?_
  exact (zrun_c rfl).trans (glr_X0_firstDuty_2 _ _ _ _ _ _)
noncomputable def g_X0_firstDuty {ρ : Type} (σ : zH) (av : List zAV) (q : zH → zAV → Option ρ) : Option ρ := match av with
  | [.inr (.inr (.inl (0, ia0))), .inl xa1, .inl xa2] => (d_X0_firstDuty σ ia0 xa1 xa2).bind fun p => q p.1 (vI p.2)
  | _ => none
theorem gr_X0_firstDuty {ρ : Type} (σ : zH) (ia0 : Nat) (xa1 : Int32) (xa2 : Int32) (q : zH → zAV → Option ρ) : g_X0_firstDuty σ [vR 0 ia0, vI xa1, vI xa2] q = (d_X0_firstDuty σ ia0 xa1 xa2).bind fun p => q p.1 (vI p.2) := rfl
theorem c_X0_firstDuty {ρ : Type} {X : zX} (hX : zHX X) {σ : zH} {av : List zAV} {q : zH → zAV → Option ρ} {r : ρ} (h : g_X0_firstDuty σ av q = some r) (hv : ∀ a ∈ av, zval X a) : zcon X 3 σ av q r := by
  unfold g_X0_firstDuty at h
  split at h
  · exact zcon_I (n := 3) (ml := 4) (rc := 0) (st := 0) (kd := 0) (np := 2) (by decide +kernel) (by decide) ⟨_, _, rfl, rfl⟩ (Nat.le_of_ble_eq_true rfl) hv h (fun y h1 => (zin_ok (hy_X0_firstDuty hX) bk_X0_firstDuty (fun t f hf => by
      by_cases e2 : t = 2
      · rw [if_pos e2] at hf; subst e2; cases hf; exact ((fun σ L st r h => s_X0_firstDuty_2 hX  zN σ L st r h))
      rw [if_neg e2] at hf
      cases hf) ((e_X0_firstDuty _ _ _ _).symm.trans h1)))
  · cases h
/-! SleepWaves$Camp.menOf(I)I -/
def q_X0_menOf_0 : List zEnt := zEk 0 (.iconst 0) 1 0 :: zE 1 (.istore_n 2) 1 :: zEk 2 (.iconst 0) 1 0 :: zE 3 (.istore_n 3) 1 :: [zE 4 .nop 0]
def q_X0_menOf_32 : List zEnt := zEa 32 (.goto (-28)) 3 4 :: []
def q_X0_menOf_29 : List zEnt := zEk 29 (.iinc 3 1) 3 1 :: q_X0_menOf_32
def q_X0_menOf_27 : List zEnt := zE 27 .iadd 1 :: zE 28 (.istore_n 2) 1 :: q_X0_menOf_29
def q_X0_menOf_26 : List zEnt := zE 26 .iaload 1 :: q_X0_menOf_27
def q_X0_menOf_20 : List zEnt := zE 20 (.iload_n 2) 1 :: zE 21 (.aload_n 0) 1 :: zEf 22 (.getfield 9) 3 0 1 36 (1, 12, 0) :: zE 25 (.iload_n 3) 1 :: q_X0_menOf_26
def q_X0_menOf_17 : List zEnt := zEa 17 (.ifCond .eq 12) 3 29 :: q_X0_menOf_20
def q_X0_menOf_12 : List zEnt := zE 12 (.iload_n 1) 1 :: zE 13 (.iload_n 3) 1 :: zE 14 .ishr 1 :: zEk 15 (.iconst 1) 1 1 :: zE 16 .iand 1 :: q_X0_menOf_17
def q_X0_menOf_9 : List zEnt := zEa 9 (.if_icmp .ge 26) 3 35 :: q_X0_menOf_12
def q_X0_menOf_4 : List zEnt := zE 4 (.iload_n 3) 1 :: zE 5 (.aload_n 0) 1 :: zEf 6 (.getfield 39) 3 0 0 30 (0, 0, 0) :: q_X0_menOf_9
def q_X0_menOf_36 : List zEnt := zE 36 .ireturn 1 :: []
def q_X0_menOf_35 : List zEnt := zE 35 (.iload_n 2) 1 :: q_X0_menOf_36
def b_X0_menOf : List (Nat × List zEnt) := [(0, q_X0_menOf_0), (4, q_X0_menOf_4), (29, q_X0_menOf_29), (35, q_X0_menOf_35)]
theorem bk_X0_menOf : zchB 4 b_X0_menOf = true := by decide +kernel
theorem hy_X0_menOf {ρ : Type} {X : zX} (hX : zHX X) : zHY X 4 (zc0 (ρ := ρ)) := zHX.hY hX (zc0_ok X) (zmok_all 4 (by decide))
def gl_X0_menOf_4 {ρ : Type} (f : zH → Nat → Int32 → Int32 → Int32 → Option ρ) (σ : zH) (L st : List zAV) : Option ρ := match L, st with
  | [.inr (.inr (.inl (0, i0))), .inl x1, .inl x2, .inl x3], [] => f σ i0 x1 x2 x3
  | _, _ => none
theorem glr_X0_menOf_4 {ρ : Type} (f : zH → Nat → Int32 → Int32 → Int32 → Option ρ) (σ : zH) (i0 : Nat) (x1 : Int32) (x2 : Int32) (x3 : Int32)  : gl_X0_menOf_4 f σ [vR 0 i0, vI x1, vI x2, vI x3] [] = f σ i0 x1 x2 x3 := rfl
theorem t_X0_menOf_0 {G : Nat → zH → List zAV → List zAV → Option (zH × Int32)} (es : List zEnt) (σ : zH) (i0 : Nat) (x1 : Int32) (y2 : zAV) (y3 : zAV) (w0 : Int32) (w2 : Int32) : zev zc0 G 0 krI (zEk 0 (.iconst 0) 1 w0 :: zE 1 (.istore_n 2) 1 :: zEk 2 (.iconst 0) 1 w2 :: zE 3 (.istore_n 3) 1 :: es) σ [vR 0 i0, vI x1, y2, y3] [] = zev zc0 G 0 krI es σ [vR 0 i0, vI x1, vI w0, vI w2] [] := rfl
theorem t_X0_menOf_4 {G : Nat → zH → List zAV → List zAV → Option (zH × Int32)} (es : List zEnt) (σ : zH) (i0 : Nat) (x1 : Int32) (x2 : Int32) (x3 : Int32)   : zev zc0 G 0 krI (zE 4 (.iload_n 3) 1 :: zE 5 (.aload_n 0) 1 :: zEf 6 (.getfield 39) 3 0 0 30 (0, 0, 0) :: es) σ [vR 0 i0, vI x1, vI x2, vI x3] [] = zev zc0 G 0 krI es σ [vR 0 i0, vI x1, vI x2, vI x3] [vI (σ.1 0 i0 0), vI x3] := rfl
theorem t_X0_menOf_12 {G : Nat → zH → List zAV → List zAV → Option (zH × Int32)} (es : List zEnt) (σ : zH) (i0 : Nat) (x1 : Int32) (x2 : Int32) (x3 : Int32)  (w15 : Int32) : zev zc0 G 0 krI (zE 12 (.iload_n 1) 1 :: zE 13 (.iload_n 3) 1 :: zE 14 .ishr 1 :: zEk 15 (.iconst 1) 1 w15 :: zE 16 .iand 1 :: es) σ [vR 0 i0, vI x1, vI x2, vI x3] [] = zev zc0 G 0 krI es σ [vR 0 i0, vI x1, vI x2, vI x3] [vI ((x1 >>> (x3 &&& 31)) &&& w15)] := rfl
theorem t_X0_menOf_20 {G : Nat → zH → List zAV → List zAV → Option (zH × Int32)} (es : List zEnt) (σ : zH) (i0 : Nat) (x1 : Int32) (x2 : Int32) (x3 : Int32)   : zev zc0 G 0 krI (zE 20 (.iload_n 2) 1 :: zE 21 (.aload_n 0) 1 :: zEf 22 (.getfield 9) 3 0 1 36 (1, 12, 0) :: zE 25 (.iload_n 3) 1 :: es) σ [vR 0 i0, vI x1, vI x2, vI x3] [] = zev zc0 G 0 krI es σ [vR 0 i0, vI x1, vI x2, vI x3] [vI x3, vR 12 (i0 + 0), vI x2] := rfl
theorem t_X0_menOf_27 {G : Nat → zH → List zAV → List zAV → Option (zH × Int32)} (es : List zEnt) (σ : zH) (i0 : Nat) (x1 : Int32) (x3 : Int32) (xs0 : Int32) (xs1 : Int32) (y2 : zAV) (w29 : Int32) : zev zc0 G 0 krI (zE 27 .iadd 1 :: zE 28 (.istore_n 2) 1 :: zEk 29 (.iinc 3 1) 3 w29 :: es) σ [vR 0 i0, vI x1, y2, vI x3] [vI xs1, vI xs0] = zev zc0 G 0 krI es σ [vR 0 i0, vI x1, vI (xs0 + xs1), vI (x3 + w29)] [] := rfl
theorem t_X0_menOf_29 {G : Nat → zH → List zAV → List zAV → Option (zH × Int32)} (es : List zEnt) (σ : zH) (i0 : Nat) (x1 : Int32) (x2 : Int32) (x3 : Int32)  (w29 : Int32) : zev zc0 G 0 krI (zEk 29 (.iinc 3 1) 3 w29 :: es) σ [vR 0 i0, vI x1, vI x2, vI x3] [] = zev zc0 G 0 krI es σ [vR 0 i0, vI x1, vI x2, vI (x3 + w29)] [] := rfl
theorem t_X0_menOf_35 {G : Nat → zH → List zAV → List zAV → Option (zH × Int32)} (es : List zEnt) (σ : zH) (x2 : Int32) (y0 : zAV) (y1 : zAV) (y3 : zAV)  : zev zc0 G 0 krI (zE 35 (.iload_n 2) 1 :: es) σ [y0, y1, vI x2, y3] [] = zev zc0 G 0 krI es σ [y0, y1, vI x2, y3] [vI x2] := rfl
noncomputable def k_X0_menOf_4  : Nat → zH → Nat → Int32 → Int32 → Int32 → Option (zH × Int32)
  | 0, _, _, _, _, _ => none
  | n + 1, σ, i0, x1, x2, x3 =>
    if x3 < (σ.1 0 i0 0) then
      if ((x1 >>> (x3 &&& 31)) &&& (1 : Int32)) = 0 then
        (k_X0_menOf_4 n) σ i0 x1 x2 (x3 + (1 : Int32))
      else
        ix x3 12 fun j1 =>
        (k_X0_menOf_4 n) σ i0 x1 (x2 + (σ.1 12 (i0 + 0) j1)) (x3 + (1 : Int32))
    else
      some (σ, x2)
theorem e_X0_menOf_4  (n : Nat) (σ : zH) (i0 : Nat) (x1 : Int32) (x2 : Int32) (x3 : Int32)  : k_X0_menOf_4 (n + 1) σ i0 x1 x2 x3 = zin zc0 (fun t => if t = 4 then some (gl_X0_menOf_4 (k_X0_menOf_4 n)) else none) 0 krI b_X0_menOf 4 σ [vR 0 i0, vI x1, vI x2, vI x3] [] := by
  rw [k_X0_menOf_4]
  refine Eq.symm ((zin_b (es := q_X0_menOf_4) rfl).trans ?_)
  refine (t_X0_menOf_4 _ _ _ _ _ _).trans ?_
  refine x_icmp.trans (pif_ge ?_ ?_)
  · refine (zrun_b (es := q_X0_menOf_35) rfl rfl).trans ?_
    refine (t_X0_menOf_35 _ _ _ _ _ _).trans ?_
    exact x_iret
  · refine (t_X0_menOf_12 _ _ _ _ _ _ _).trans ?_
    refine x_if.trans (pif_eq ?_ ?_)
    · refine (zrun_b (es := q_X0_menOf_29) rfl rfl).trans ?_
      refine (t_X0_menOf_29 _ _ _ _ _ _ _).trans ?_
      refine x_goto.trans ?_
      exact (zrun_c rfl).trans (glr_X0_menOf_4 _ _ _ _ _ _)
    · refine (t_X0_menOf_20 _ _ _ _ _ _).trans ?_
      refine (x_iald (N := 12) rfl rfl).trans (pix fun _ => ?_)
      refine (t_X0_menOf_27 _ _ _ _ _ _ _ _ _).trans ?_
      refine x_goto.trans ?_
      exact (zrun_c rfl).trans (glr_X0_menOf_4 _ _ _ _ _ _)
theorem s_X0_menOf_4 {X : zX} (hX : zHX X)   : ∀ n σ L st r, gl_X0_menOf_4 (k_X0_menOf_4 n) σ L st = some r → zGW X 4 krI 4 σ L st r := by
  intro n
  induction n with
  | zero =>
    intro σ L st r h
    unfold gl_X0_menOf_4 at h
    split at h <;> cases h
  | succ n ih =>
    intro σ L st r h
    unfold gl_X0_menOf_4 at h
    split at h
    · exact zin_ok (hy_X0_menOf hX) bk_X0_menOf (fun t f hf => by
      by_cases e4 : t = 4
      · rw [if_pos e4] at hf; subst e4; cases hf; exact ih
      rw [if_neg e4] at hf
      cases hf) ((e_X0_menOf_4 _ _ _ _ _ _).symm.trans h)
    · cases h
noncomputable def d_X0_menOf (σ : zH) (ia0 : Nat) (xa1 : Int32) : Option (zH × Int32) :=
  (k_X0_menOf_4 zN) σ ia0 xa1 (0 : Int32) (0 : Int32)
theorem e_X0_menOf (σ : zH) (ia0 : Nat) (xa1 : Int32) : d_X0_menOf σ ia0 xa1 = zin zc0 (fun t => if t = 4 then some (gl_X0_menOf_4 (k_X0_menOf_4 zN)) else none) 0 krI b_X0_menOf 0 σ [vR 0 ia0, vI xa1, vU, vU] [] := by
  unfold d_X0_menOf
  refine Eq.symm ((zin_b (es := q_X0_menOf_0) rfl).trans ?_)
  refine (t_X0_menOf_0 _ _ _ _ _ _ _ _).trans ?_
  refine x_cut.trans ?_
  exact (zrun_c rfl).trans (glr_X0_menOf_4 _ _ _ _ _ _)
noncomputable def g_X0_menOf {ρ : Type} (σ : zH) (av : List zAV) (q : zH → zAV → Option ρ) : Option ρ := match av with
  | [.inr (.inr (.inl (0, ia0))), .inl xa1] => (d_X0_menOf σ ia0 xa1).bind fun p => q p.1 (vI p.2)
  | _ => none
theorem gr_X0_menOf {ρ : Type} (σ : zH) (ia0 : Nat) (xa1 : Int32) (q : zH → zAV → Option ρ) : g_X0_menOf σ [vR 0 ia0, vI xa1] q = (d_X0_menOf σ ia0 xa1).bind fun p => q p.1 (vI p.2) := rfl
theorem c_X0_menOf {ρ : Type} {X : zX} (hX : zHX X) {σ : zH} {av : List zAV} {q : zH → zAV → Option ρ} {r : ρ} (h : g_X0_menOf σ av q = some r) (hv : ∀ a ∈ av, zval X a) : zcon X 4 σ av q r := by
  unfold g_X0_menOf at h
  split at h
  · exact zcon_I (n := 4) (ml := 4) (rc := 0) (st := 0) (kd := 0) (np := 1) (by decide +kernel) (by decide) ⟨_, _, rfl, rfl⟩ (Nat.le_of_ble_eq_true rfl) hv h (fun y h1 => (zin_ok (hy_X0_menOf hX) bk_X0_menOf (fun t f hf => by
      by_cases e4 : t = 4
      · rw [if_pos e4] at hf; subst e4; cases hf; exact ((fun σ L st r h => s_X0_menOf_4 hX  zN σ L st r h))
      rw [if_neg e4] at hf
      cases hf) ((e_X0_menOf _ _ _).symm.trans h1)))
  · cases h
/-! SleepWaves$Camp.dropBell(I)V -/
def q_X0_dropBell_0 : List zEnt := zE 0 (.iload_n 1) 1 :: zE 1 (.istore_n 2) 1 :: [zE 2 .nop 0]
def q_X0_dropBell_43 : List zEnt := zEa 43 (.goto (-41)) 3 2 :: []
def q_X0_dropBell_40 : List zEnt := zEk 40 (.iinc 2 1) 3 1 :: q_X0_dropBell_43
def q_X0_dropBell_39 : List zEnt := zE 39 .iastore 1 :: q_X0_dropBell_40
def q_X0_dropBell_38 : List zEnt := zE 38 .iaload 1 :: q_X0_dropBell_39
def q_X0_dropBell_26 : List zEnt := zE 26 (.aload_n 0) 1 :: zEf 27 (.getfield 27) 3 0 7 61 (1, 17, 0) :: zE 30 (.iload_n 2) 1 :: zE 31 (.aload_n 0) 1 :: zEf 32 (.getfield 27) 3 0 7 61 (1, 17, 0) :: zE 35 (.iload_n 2) 1 :: zEk 36 (.iconst 1) 1 1 :: zE 37 .iadd 1 :: q_X0_dropBell_38
def q_X0_dropBell_25 : List zEnt := zE 25 .iastore 1 :: q_X0_dropBell_26
def q_X0_dropBell_24 : List zEnt := zE 24 .iaload 1 :: q_X0_dropBell_25
def q_X0_dropBell_12 : List zEnt := zE 12 (.aload_n 0) 1 :: zEf 13 (.getfield 24) 3 0 6 59 (1, 16, 0) :: zE 16 (.iload_n 2) 1 :: zE 17 (.aload_n 0) 1 :: zEf 18 (.getfield 24) 3 0 6 59 (1, 16, 0) :: zE 21 (.iload_n 2) 1 :: zEk 22 (.iconst 1) 1 1 :: zE 23 .iadd 1 :: q_X0_dropBell_24
def q_X0_dropBell_9 : List zEnt := zEa 9 (.if_icmp .ge 37) 3 46 :: q_X0_dropBell_12
def q_X0_dropBell_2 : List zEnt := zE 2 (.iload_n 2) 1 :: zEk 3 (.iconst 1) 1 1 :: zE 4 .iadd 1 :: zE 5 (.aload_n 0) 1 :: zEf 6 (.getfield 43) 3 0 5 55 (0, 0, 0) :: q_X0_dropBell_9
def q_X0_dropBell_56 : List zEnt := zE 56 .return_ 1 :: []
def q_X0_dropBell_53 : List zEnt := zEf 53 (.putfield 43) 3 0 5 55 (0, 0, 0) :: q_X0_dropBell_56
def q_X0_dropBell_46 : List zEnt := zE 46 (.aload_n 0) 1 :: zE 47 .dup 1 :: zEf 48 (.getfield 43) 3 0 5 55 (0, 0, 0) :: zEk 51 (.iconst 1) 1 1 :: zE 52 .isub 1 :: q_X0_dropBell_53
def b_X0_dropBell : List (Nat × List zEnt) := [(0, q_X0_dropBell_0), (2, q_X0_dropBell_2), (46, q_X0_dropBell_46)]
theorem bk_X0_dropBell : zchB 5 b_X0_dropBell = true := by decide +kernel
theorem hy_X0_dropBell {ρ : Type} {X : zX} (hX : zHX X) : zHY X 5 (zc0 (ρ := ρ)) := zHX.hY hX (zc0_ok X) (zmok_all 5 (by decide))
def gl_X0_dropBell_2 {ρ : Type} (f : zH → Nat → Int32 → Option ρ) (σ : zH) (L st : List zAV) : Option ρ := match L, st with
  | [.inr (.inr (.inl (0, i0))), _, .inl x2], [] => f σ i0 x2
  | _, _ => none
def gl_X0_dropBell_46 {ρ : Type} (f : zH → Nat → Option ρ) (σ : zH) (L st : List zAV) : Option ρ := match L, st with
  | [.inr (.inr (.inl (0, i0))), _, _], [] => f σ i0
  | _, _ => none
theorem glr_X0_dropBell_2 {ρ : Type} (f : zH → Nat → Int32 → Option ρ) (σ : zH) (i0 : Nat) (x2 : Int32) (y1 : zAV) : gl_X0_dropBell_2 f σ [vR 0 i0, y1, vI x2] [] = f σ i0 x2 := rfl
theorem glr_X0_dropBell_46 {ρ : Type} (f : zH → Nat → Option ρ) (σ : zH) (i0 : Nat) (y1 : zAV) (y2 : zAV) : gl_X0_dropBell_46 f σ [vR 0 i0, y1, y2] [] = f σ i0 := rfl
theorem t_X0_dropBell_0 {G : Nat → zH → List zAV → List zAV → Option zH} (es : List zEnt) (σ : zH) (i0 : Nat) (x1 : Int32) (y2 : zAV)  : zev zc0 G 9 krV (zE 0 (.iload_n 1) 1 :: zE 1 (.istore_n 2) 1 :: es) σ [vR 0 i0, vI x1, y2] [] = zev zc0 G 9 krV es σ [vR 0 i0, vI x1, vI x1] [] := rfl
theorem t_X0_dropBell_2 {G : Nat → zH → List zAV → List zAV → Option zH} (es : List zEnt) (σ : zH) (i0 : Nat) (x2 : Int32) (y1 : zAV) (w3 : Int32) : zev zc0 G 9 krV (zE 2 (.iload_n 2) 1 :: zEk 3 (.iconst 1) 1 w3 :: zE 4 .iadd 1 :: zE 5 (.aload_n 0) 1 :: zEf 6 (.getfield 43) 3 0 5 55 (0, 0, 0) :: es) σ [vR 0 i0, y1, vI x2] [] = zev zc0 G 9 krV es σ [vR 0 i0, y1, vI x2] [vI (σ.1 0 i0 5), vI (x2 + w3)] := rfl
theorem t_X0_dropBell_12 {G : Nat → zH → List zAV → List zAV → Option zH} (es : List zEnt) (σ : zH) (i0 : Nat) (x2 : Int32) (y1 : zAV) (w22 : Int32) : zev zc0 G 9 krV (zE 12 (.aload_n 0) 1 :: zEf 13 (.getfield 24) 3 0 6 59 (1, 16, 0) :: zE 16 (.iload_n 2) 1 :: zE 17 (.aload_n 0) 1 :: zEf 18 (.getfield 24) 3 0 6 59 (1, 16, 0) :: zE 21 (.iload_n 2) 1 :: zEk 22 (.iconst 1) 1 w22 :: zE 23 .iadd 1 :: es) σ [vR 0 i0, y1, vI x2] [] = zev zc0 G 9 krV es σ [vR 0 i0, y1, vI x2] [vI (x2 + w22), vR 16 (i0 + 0), vI x2, vR 16 (i0 + 0)] := rfl
theorem t_X0_dropBell_26 {G : Nat → zH → List zAV → List zAV → Option zH} (es : List zEnt) (σ : zH) (i0 : Nat) (x2 : Int32) (y1 : zAV) (w36 : Int32) : zev zc0 G 9 krV (zE 26 (.aload_n 0) 1 :: zEf 27 (.getfield 27) 3 0 7 61 (1, 17, 0) :: zE 30 (.iload_n 2) 1 :: zE 31 (.aload_n 0) 1 :: zEf 32 (.getfield 27) 3 0 7 61 (1, 17, 0) :: zE 35 (.iload_n 2) 1 :: zEk 36 (.iconst 1) 1 w36 :: zE 37 .iadd 1 :: es) σ [vR 0 i0, y1, vI x2] [] = zev zc0 G 9 krV es σ [vR 0 i0, y1, vI x2] [vI (x2 + w36), vR 17 (i0 + 0), vI x2, vR 17 (i0 + 0)] := rfl
theorem t_X0_dropBell_40 {G : Nat → zH → List zAV → List zAV → Option zH} (es : List zEnt) (σ : zH) (i0 : Nat) (x2 : Int32) (y1 : zAV) (w40 : Int32) : zev zc0 G 9 krV (zEk 40 (.iinc 2 1) 3 w40 :: es) σ [vR 0 i0, y1, vI x2] [] = zev zc0 G 9 krV es σ [vR 0 i0, (zkp y1), vI (x2 + w40)] [] := rfl
theorem t_X0_dropBell_46 {G : Nat → zH → List zAV → List zAV → Option zH} (es : List zEnt) (σ : zH) (i0 : Nat) (y1 : zAV) (y2 : zAV) (w51 : Int32) : zev zc0 G 9 krV (zE 46 (.aload_n 0) 1 :: zE 47 .dup 1 :: zEf 48 (.getfield 43) 3 0 5 55 (0, 0, 0) :: zEk 51 (.iconst 1) 1 w51 :: zE 52 .isub 1 :: es) σ [vR 0 i0, y1, y2] [] = zev zc0 G 9 krV es σ [vR 0 i0, y1, y2] [vI ((σ.1 0 i0 5) - w51), vR 0 i0] := rfl
noncomputable def k_X0_dropBell_2 (c46 : zH → Nat → Option zH) : Nat → zH → Nat → Int32 → Option zH
  | 0, _, _, _ => none
  | n + 1, σ, i0, x2 =>
    if (x2 + (1 : Int32)) < (σ.1 0 i0 5) then
      ix (x2 + (1 : Int32)) 8 fun j1 =>
      ix x2 8 fun j6 =>
      zlet (uI σ 16 (i0 + 0) j6 (σ.1 16 (i0 + 0) j1)) fun σ2 =>
      ix (x2 + (1 : Int32)) 8 fun j3 =>
      ix x2 8 fun j5 =>
      zlet (uI σ2 17 (i0 + 0) j5 (σ2.1 17 (i0 + 0) j3)) fun σ4 =>
      (k_X0_dropBell_2 c46 n) σ4 i0 (x2 + (1 : Int32))
    else
      c46 σ i0
theorem e_X0_dropBell_2 (c46 : zH → Nat → Option zH) (n : Nat) (σ : zH) (i0 : Nat) (x2 : Int32) (y1 : zAV) : k_X0_dropBell_2 c46 (n + 1) σ i0 x2 = zin zc0 (fun t => if t = 2 then some (gl_X0_dropBell_2 (k_X0_dropBell_2 c46 n)) else if t = 46 then some (gl_X0_dropBell_46 c46) else none) 9 krV b_X0_dropBell 2 σ [vR 0 i0, y1, vI x2] [] := by
  rw [k_X0_dropBell_2]
  refine Eq.symm ((zin_b (es := q_X0_dropBell_2) rfl).trans ?_)
  refine (t_X0_dropBell_2 _ _ _ _ _ _).trans ?_
  refine x_icmp.trans (pif_ge ?_ ?_)
  · exact (zrun_c rfl).trans (glr_X0_dropBell_46 _ _ _ _ _)
  · refine (t_X0_dropBell_12 _ _ _ _ _ _).trans ?_
    refine (x_iald (N := 8) rfl rfl).trans (pix fun _ => ?_)
    refine (x_iast (N := 8) rfl rfl).trans (pix fun _ => plt fun _ => ?_)
    refine (t_X0_dropBell_26 _ _ _ _ _ _).trans ?_
    refine (x_iald (N := 8) rfl rfl).trans (pix fun _ => ?_)
    refine (x_iast (N := 8) rfl rfl).trans (pix fun _ => plt fun _ => ?_)
    refine (t_X0_dropBell_40 _ _ _ _ _ _).trans ?_
    refine x_goto.trans ?_
    exact (zrun_c rfl).trans (glr_X0_dropBell_2 _ _ _ _ _)
theorem s_X0_dropBell_2 {X : zX} (hX : zHX X) {c46 : zH → Nat → Option zH} (h46 : ∀ σ L st r, gl_X0_dropBell_46 c46 σ L st = some r → zGW X 5 krV 46 σ L st r) : ∀ n σ L st r, gl_X0_dropBell_2 (k_X0_dropBell_2 c46 n) σ L st = some r → zGW X 5 krV 2 σ L st r := by
  intro n
  induction n with
  | zero =>
    intro σ L st r h
    unfold gl_X0_dropBell_2 at h
    split at h <;> cases h
  | succ n ih =>
    intro σ L st r h
    unfold gl_X0_dropBell_2 at h
    split at h
    · exact zin_ok (hy_X0_dropBell hX) bk_X0_dropBell (fun t f hf => by
      by_cases e2 : t = 2
      · rw [if_pos e2] at hf; subst e2; cases hf; exact ih
      rw [if_neg e2] at hf
      by_cases e46 : t = 46
      · rw [if_pos e46] at hf; subst e46; cases hf; exact h46
      rw [if_neg e46] at hf
      cases hf) ((e_X0_dropBell_2 _ _ _ _ _ _).symm.trans h)
    · cases h
noncomputable def j_X0_dropBell_46  (σ : zH) (i0 : Nat) : Option zH :=
  zlet (uI σ 0 i0 5 ((σ.1 0 i0 5) - (1 : Int32))) fun σ1 =>
  some σ1
theorem e_X0_dropBell_46  (σ : zH) (i0 : Nat) (y1 : zAV) (y2 : zAV) : j_X0_dropBell_46 σ i0 = zin zc0 (fun t => none) 9 krV b_X0_dropBell 46 σ [vR 0 i0, y1, y2] [] := by
  unfold j_X0_dropBell_46
  refine Eq.symm ((zin_b (es := q_X0_dropBell_46) rfl).trans ?_)
  refine (t_X0_dropBell_46 _ _ _ _ _ _).trans ?_
  refine x_pf0.trans (plt fun _ => ?_)
  exact x_vret
theorem s_X0_dropBell_46 {X : zX} (hX : zHX X)   : ∀ σ L st r, gl_X0_dropBell_46 j_X0_dropBell_46 σ L st = some r → zGW X 5 krV 46 σ L st r := by
  intro σ L st r h
  unfold gl_X0_dropBell_46 at h
  split at h
  · exact zin_ok (hy_X0_dropBell hX) bk_X0_dropBell (fun t f hf => by
    cases hf) ((e_X0_dropBell_46 _ _ _ _).symm.trans h)
  · cases h
noncomputable def d_X0_dropBell (σ : zH) (ia0 : Nat) (xa1 : Int32) : Option zH :=
  (k_X0_dropBell_2 j_X0_dropBell_46 zN) σ ia0 xa1
theorem e_X0_dropBell (σ : zH) (ia0 : Nat) (xa1 : Int32) : d_X0_dropBell σ ia0 xa1 = zin zc0 (fun t => if t = 2 then some (gl_X0_dropBell_2 (k_X0_dropBell_2 j_X0_dropBell_46 zN)) else none) 9 krV b_X0_dropBell 0 σ [vR 0 ia0, vI xa1, vU] [] := by
  unfold d_X0_dropBell
  refine Eq.symm ((zin_b (es := q_X0_dropBell_0) rfl).trans ?_)
  refine (t_X0_dropBell_0 _ _ _ _ _).trans ?_
  refine x_cut.trans ?_
  exact (zrun_c rfl).trans (glr_X0_dropBell_2 _ _ _ _ _)
noncomputable def g_X0_dropBell {ρ : Type} (σ : zH) (av : List zAV) (q : zH → zAV → Option ρ) : Option ρ := match av with
  | [.inr (.inr (.inl (0, ia0))), .inl xa1] => (d_X0_dropBell σ ia0 xa1).bind fun σ => q σ vU
  | _ => none
theorem gr_X0_dropBell {ρ : Type} (σ : zH) (ia0 : Nat) (xa1 : Int32) (q : zH → zAV → Option ρ) : g_X0_dropBell σ [vR 0 ia0, vI xa1] q = (d_X0_dropBell σ ia0 xa1).bind fun σ => q σ vU := rfl
theorem c_X0_dropBell {ρ : Type} {X : zX} (hX : zHX X) {σ : zH} {av : List zAV} {q : zH → zAV → Option ρ} {r : ρ} (h : g_X0_dropBell σ av q = some r) (hv : ∀ a ∈ av, zval X a) : zcon X 5 σ av q r := by
  unfold g_X0_dropBell at h
  split at h
  · exact zcon_V (n := 5) (ml := 3) (rc := 9) (st := 0) (kd := 0) (np := 1) (by decide +kernel) rfl ⟨_, _, rfl, rfl⟩ (Nat.le_of_ble_eq_true rfl) hv h (fun y h1 => (zin_ok (hy_X0_dropBell hX) bk_X0_dropBell (fun t f hf => by
      by_cases e2 : t = 2
      · rw [if_pos e2] at hf; subst e2; cases hf; exact ((fun σ L st r h => s_X0_dropBell_2 hX (s_X0_dropBell_46 hX) zN σ L st r h))
      rw [if_neg e2] at hf
      cases hf) ((e_X0_dropBell _ _ _).symm.trans h1)))
  · cases h
/-! SleepWaves$Camp.exchangeBeds(II)V -/
def q_X0_exchangeBeds_26 : List zEnt := zE 26 .return_ 1 :: []
def q_X0_exchangeBeds_25 : List zEnt := zE 25 .iastore 1 :: q_X0_exchangeBeds_26
def q_X0_exchangeBeds_19 : List zEnt := zE 19 (.aload_n 0) 1 :: zEf 20 (.getfield 18) 3 0 3 45 (1, 14, 0) :: zE 23 (.iload_n 2) 1 :: zE 24 (.iload_n 3) 1 :: q_X0_exchangeBeds_25
def q_X0_exchangeBeds_18 : List zEnt := zE 18 .iastore 1 :: q_X0_exchangeBeds_19
def q_X0_exchangeBeds_17 : List zEnt := zE 17 .iaload 1 :: q_X0_exchangeBeds_18
def q_X0_exchangeBeds_6 : List zEnt := zE 6 (.istore_n 3) 1 :: zE 7 (.aload_n 0) 1 :: zEf 8 (.getfield 18) 3 0 3 45 (1, 14, 0) :: zE 11 (.iload_n 1) 1 :: zE 12 (.aload_n 0) 1 :: zEf 13 (.getfield 18) 3 0 3 45 (1, 14, 0) :: zE 16 (.iload_n 2) 1 :: q_X0_exchangeBeds_17
def q_X0_exchangeBeds_5 : List zEnt := zE 5 .iaload 1 :: q_X0_exchangeBeds_6
def q_X0_exchangeBeds_0 : List zEnt := zE 0 (.aload_n 0) 1 :: zEf 1 (.getfield 18) 3 0 3 45 (1, 14, 0) :: zE 4 (.iload_n 1) 1 :: q_X0_exchangeBeds_5
def b_X0_exchangeBeds : List (Nat × List zEnt) := [(0, q_X0_exchangeBeds_0)]
theorem bk_X0_exchangeBeds : zchB 6 b_X0_exchangeBeds = true := by decide +kernel
theorem hy_X0_exchangeBeds {ρ : Type} {X : zX} (hX : zHX X) : zHY X 6 (zc0 (ρ := ρ)) := zHX.hY hX (zc0_ok X) (zmok_all 6 (by decide))
theorem t_X0_exchangeBeds_0 {G : Nat → zH → List zAV → List zAV → Option zH} (es : List zEnt) (σ : zH) (i0 : Nat) (x1 : Int32) (x2 : Int32) (y3 : zAV)  : zev zc0 G 9 krV (zE 0 (.aload_n 0) 1 :: zEf 1 (.getfield 18) 3 0 3 45 (1, 14, 0) :: zE 4 (.iload_n 1) 1 :: es) σ [vR 0 i0, vI x1, vI x2, y3] [] = zev zc0 G 9 krV es σ [vR 0 i0, vI x1, vI x2, y3] [vI x1, vR 14 (i0 + 0)] := rfl
theorem t_X0_exchangeBeds_6 {G : Nat → zH → List zAV → List zAV → Option zH} (es : List zEnt) (σ : zH) (i0 : Nat) (x1 : Int32) (x2 : Int32) (xs0 : Int32) (y3 : zAV)  : zev zc0 G 9 krV (zE 6 (.istore_n 3) 1 :: zE 7 (.aload_n 0) 1 :: zEf 8 (.getfield 18) 3 0 3 45 (1, 14, 0) :: zE 11 (.iload_n 1) 1 :: zE 12 (.aload_n 0) 1 :: zEf 13 (.getfield 18) 3 0 3 45 (1, 14, 0) :: zE 16 (.iload_n 2) 1 :: es) σ [vR 0 i0, vI x1, vI x2, y3] [vI xs0] = zev zc0 G 9 krV es σ [vR 0 i0, vI x1, vI x2, vI xs0] [vI x2, vR 14 (i0 + 0), vI x1, vR 14 (i0 + 0)] := rfl
theorem t_X0_exchangeBeds_19 {G : Nat → zH → List zAV → List zAV → Option zH} (es : List zEnt) (σ : zH) (i0 : Nat) (x2 : Int32) (x3 : Int32) (y1 : zAV)  : zev zc0 G 9 krV (zE 19 (.aload_n 0) 1 :: zEf 20 (.getfield 18) 3 0 3 45 (1, 14, 0) :: zE 23 (.iload_n 2) 1 :: zE 24 (.iload_n 3) 1 :: es) σ [vR 0 i0, y1, vI x2, vI x3] [] = zev zc0 G 9 krV es σ [vR 0 i0, y1, vI x2, vI x3] [vI x3, vI x2, vR 14 (i0 + 0)] := rfl
noncomputable def d_X0_exchangeBeds (σ : zH) (ia0 : Nat) (xa1 : Int32) (xa2 : Int32) : Option zH :=
  ix xa1 12 fun j1 =>
  ix xa2 12 fun j2 =>
  ix xa1 12 fun j6 =>
  zlet (uI σ 14 (ia0 + 0) j6 (σ.1 14 (ia0 + 0) j2)) fun σ3 =>
  ix xa2 12 fun j5 =>
  zlet (uI σ3 14 (ia0 + 0) j5 (σ.1 14 (ia0 + 0) j1)) fun σ4 =>
  some σ4
theorem e_X0_exchangeBeds (σ : zH) (ia0 : Nat) (xa1 : Int32) (xa2 : Int32) : d_X0_exchangeBeds σ ia0 xa1 xa2 = zin zc0 (fun t => none) 9 krV b_X0_exchangeBeds 0 σ [vR 0 ia0, vI xa1, vI xa2, vU] [] := by
  unfold d_X0_exchangeBeds
  refine Eq.symm ((zin_b (es := q_X0_exchangeBeds_0) rfl).trans ?_)
  refine (t_X0_exchangeBeds_0 _ _ _ _ _ _).trans ?_
  refine (x_iald (N := 12) rfl rfl).trans (pix fun _ => ?_)
  refine (t_X0_exchangeBeds_6 _ _ _ _ _ _ _).trans ?_
  refine (x_iald (N := 12) rfl rfl).trans (pix fun _ => ?_)
  refine (x_iast (N := 12) rfl rfl).trans (pix fun _ => plt fun _ => ?_)
  refine (t_X0_exchangeBeds_19 _ _ _ _ _ _).trans ?_
  refine (x_iast (N := 12) rfl rfl).trans (pix fun _ => plt fun _ => ?_)
  exact x_vret
noncomputable def g_X0_exchangeBeds {ρ : Type} (σ : zH) (av : List zAV) (q : zH → zAV → Option ρ) : Option ρ := match av with
  | [.inr (.inr (.inl (0, ia0))), .inl xa1, .inl xa2] => (d_X0_exchangeBeds σ ia0 xa1 xa2).bind fun σ => q σ vU
  | _ => none
theorem gr_X0_exchangeBeds {ρ : Type} (σ : zH) (ia0 : Nat) (xa1 : Int32) (xa2 : Int32) (q : zH → zAV → Option ρ) : g_X0_exchangeBeds σ [vR 0 ia0, vI xa1, vI xa2] q = (d_X0_exchangeBeds σ ia0 xa1 xa2).bind fun σ => q σ vU := rfl
theorem c_X0_exchangeBeds {ρ : Type} {X : zX} (hX : zHX X) {σ : zH} {av : List zAV} {q : zH → zAV → Option ρ} {r : ρ} (h : g_X0_exchangeBeds σ av q = some r) (hv : ∀ a ∈ av, zval X a) : zcon X 6 σ av q r := by
  unfold g_X0_exchangeBeds at h
  split at h
  · exact zcon_V (n := 6) (ml := 4) (rc := 9) (st := 0) (kd := 0) (np := 2) (by decide +kernel) rfl ⟨_, _, rfl, rfl⟩ (Nat.le_of_ble_eq_true rfl) hv h (fun y h1 => (zin_ok (hy_X0_exchangeBeds hX) bk_X0_exchangeBeds (fun t f hf => by
      cases hf) ((e_X0_exchangeBeds _ _ _ _).symm.trans h1)))
  · cases h
/-! SleepWaves$Scanner.begin()V -/
def q_X7_begin_10 : List zEnt := zE 10 .return_ 1 :: []
def q_X7_begin_7 : List zEnt := zEf 7 (.putfield 19) 3 7 5 14 (0, 0, 0) :: q_X7_begin_10
def q_X7_begin_5 : List zEnt := zE 5 (.aload_n 0) 1 :: zEk 6 (.iconst 0) 1 0 :: q_X7_begin_7
def q_X7_begin_2 : List zEnt := zEf 2 (.putfield 15) 3 7 1 6 (0, 0, 0) :: q_X7_begin_5
def q_X7_begin_0 : List zEnt := zE 0 (.aload_n 0) 1 :: zEk 1 (.iconst 0) 1 0 :: q_X7_begin_2
def b_X7_begin : List (Nat × List zEnt) := [(0, q_X7_begin_0)]
theorem bk_X7_begin : zchB 60 b_X7_begin = true := by decide +kernel
theorem hy_X7_begin {ρ : Type} {X : zX} (hX : zHX X) : zHY X 60 (zc0 (ρ := ρ)) := zHX.hY hX (zc0_ok X) (zmok_all 60 (by decide))
theorem t_X7_begin_0 {G : Nat → zH → List zAV → List zAV → Option zH} (es : List zEnt) (σ : zH)   (w1 : Int32) : zev zc0 G 9 krV (zE 0 (.aload_n 0) 1 :: zEk 1 (.iconst 0) 1 w1 :: es) σ [vR 7 0] [] = zev zc0 G 9 krV es σ [vR 7 0] [vI w1, vR 7 0] := rfl
theorem t_X7_begin_5 {G : Nat → zH → List zAV → List zAV → Option zH} (es : List zEnt) (σ : zH)   (w6 : Int32) : zev zc0 G 9 krV (zE 5 (.aload_n 0) 1 :: zEk 6 (.iconst 0) 1 w6 :: es) σ [vR 7 0] [] = zev zc0 G 9 krV es σ [vR 7 0] [vI w6, vR 7 0] := rfl
noncomputable def d_X7_begin (σ : zH)  : Option zH :=
  zlet (uI σ 7 0 1 (0 : Int32)) fun σ1 =>
  zlet (uI σ1 7 0 5 (0 : Int32)) fun σ2 =>
  some σ2
theorem e_X7_begin (σ : zH)  : d_X7_begin σ = zin zc0 (fun t => none) 9 krV b_X7_begin 0 σ [vR 7 0] [] := by
  unfold d_X7_begin
  refine Eq.symm ((zin_b (es := q_X7_begin_0) rfl).trans ?_)
  refine (t_X7_begin_0 _ _ _).trans ?_
  refine x_pf0.trans (plt fun _ => ?_)
  refine (t_X7_begin_5 _ _ _).trans ?_
  refine x_pf0.trans (plt fun _ => ?_)
  exact x_vret
noncomputable def g_X7_begin {ρ : Type} (σ : zH) (av : List zAV) (q : zH → zAV → Option ρ) : Option ρ := match av with
  | [.inr (.inr (.inl (7, 0)))] => (d_X7_begin σ).bind fun σ => q σ vU
  | _ => none
theorem gr_X7_begin {ρ : Type} (σ : zH)  (q : zH → zAV → Option ρ) : g_X7_begin σ [vR 7 0] q = (d_X7_begin σ).bind fun σ => q σ vU := rfl
theorem c_X7_begin {ρ : Type} {X : zX} (hX : zHX X) {σ : zH} {av : List zAV} {q : zH → zAV → Option ρ} {r : ρ} (h : g_X7_begin σ av q = some r) (hv : ∀ a ∈ av, zval X a) : zcon X 60 σ av q r := by
  unfold g_X7_begin at h
  split at h
  · exact zcon_V (n := 60) (ml := 1) (rc := 9) (st := 0) (kd := 7) (np := 0) (by decide +kernel) rfl ⟨_, _, rfl, rfl⟩ (Nat.le_of_ble_eq_true rfl) hv h (fun y h1 => (zin_ok (hy_X7_begin hX) bk_X7_begin (fun t f hf => by
      cases hf) ((e_X7_begin _).symm.trans h1)))
  · cases h
/-! SleepWaves$Scanner.peek()I -/
def q_X7_peek_43 : List zEnt := zEa 43 (.goto 4) 3 47 :: []
def q_X7_peek_42 : List zEnt := zE 42 .iaload 1 :: q_X7_peek_43
def q_X7_peek_31 : List zEnt := zE 31 (.aload_n 0) 1 :: zEf 32 (.getfield 9) 3 7 0 5 (2, 9, 0) :: zEf 35 (.getfield 49) 3 9 0 1 (2, 37, 0) :: zE 38 (.aload_n 0) 1 :: zEf 39 (.getfield 15) 3 7 1 6 (0, 0, 0) :: q_X7_peek_42
def q_X7_peek_28 : List zEnt := zEa 28 (.if_icmp .ge 18) 3 46 :: q_X7_peek_31
def q_X7_peek_21 : List zEnt := zE 21 (.aload_n 0) 1 :: zEf 22 (.getfield 15) 3 7 1 6 (0, 0, 0) :: zEk 25 (.sipush 400) 3 400 :: q_X7_peek_28
def q_X7_peek_18 : List zEnt := zEa 18 (.if_icmp .ge 28) 3 46 :: q_X7_peek_21
def q_X7_peek_7 : List zEnt := zE 7 (.aload_n 0) 1 :: zEf 8 (.getfield 15) 3 7 1 6 (0, 0, 0) :: zE 11 (.aload_n 0) 1 :: zEf 12 (.getfield 9) 3 7 0 5 (2, 9, 0) :: zEf 15 (.getfield 46) 3 9 1 4 (0, 0, 0) :: q_X7_peek_18
def q_X7_peek_4 : List zEnt := zEa 4 (.ifCond .lt 42) 3 46 :: q_X7_peek_7
def q_X7_peek_0 : List zEnt := zE 0 (.aload_n 0) 1 :: zEf 1 (.getfield 15) 3 7 1 6 (0, 0, 0) :: q_X7_peek_4
def q_X7_peek_47 : List zEnt := zE 47 .ireturn 1 :: []
def q_X7_peek_46 : List zEnt := zEk 46 (.iconst (-1)) 1 (-1) :: q_X7_peek_47
def b_X7_peek : List (Nat × List zEnt) := [(0, q_X7_peek_0), (46, q_X7_peek_46), (47, q_X7_peek_47)]
theorem bk_X7_peek : zchB 64 b_X7_peek = true := by decide +kernel
theorem hy_X7_peek {ρ : Type} {X : zX} (hX : zHX X) : zHY X 64 (zc0 (ρ := ρ)) := zHX.hY hX (zc0_ok X) (zmok_all 64 (by decide))
theorem t_X7_peek_0 {G : Nat → zH → List zAV → List zAV → Option (zH × Int32)} (es : List zEnt) (σ : zH)    : zev zc0 G 0 krI (zE 0 (.aload_n 0) 1 :: zEf 1 (.getfield 15) 3 7 1 6 (0, 0, 0) :: es) σ [vR 7 0] [] = zev zc0 G 0 krI es σ [vR 7 0] [vI (σ.1 7 0 1)] := rfl
theorem t_X7_peek_7 {G : Nat → zH → List zAV → List zAV → Option (zH × Int32)} (es : List zEnt) (σ : zH)    : zev zc0 G 0 krI (zE 7 (.aload_n 0) 1 :: zEf 8 (.getfield 15) 3 7 1 6 (0, 0, 0) :: zE 11 (.aload_n 0) 1 :: zEf 12 (.getfield 9) 3 7 0 5 (2, 9, 0) :: zEf 15 (.getfield 46) 3 9 1 4 (0, 0, 0) :: es) σ [vR 7 0] [] = zev zc0 G 0 krI es σ [vR 7 0] [vI (σ.1 9 0 1), vI (σ.1 7 0 1)] := rfl
theorem t_X7_peek_21 {G : Nat → zH → List zAV → List zAV → Option (zH × Int32)} (es : List zEnt) (σ : zH)   (w25 : Int32) : zev zc0 G 0 krI (zE 21 (.aload_n 0) 1 :: zEf 22 (.getfield 15) 3 7 1 6 (0, 0, 0) :: zEk 25 (.sipush 400) 3 w25 :: es) σ [vR 7 0] [] = zev zc0 G 0 krI es σ [vR 7 0] [vI w25, vI (σ.1 7 0 1)] := rfl
theorem t_X7_peek_31 {G : Nat → zH → List zAV → List zAV → Option (zH × Int32)} (es : List zEnt) (σ : zH)    : zev zc0 G 0 krI (zE 31 (.aload_n 0) 1 :: zEf 32 (.getfield 9) 3 7 0 5 (2, 9, 0) :: zEf 35 (.getfield 49) 3 9 0 1 (2, 37, 0) :: zE 38 (.aload_n 0) 1 :: zEf 39 (.getfield 15) 3 7 1 6 (0, 0, 0) :: es) σ [vR 7 0] [] = zev zc0 G 0 krI es σ [vR 7 0] [vI (σ.1 7 0 1), vR 37 0] := rfl
theorem t_X7_peek_46 {G : Nat → zH → List zAV → List zAV → Option (zH × Int32)} (es : List zEnt) (σ : zH)  (y0 : zAV) (w46 : Int32) : zev zc0 G 0 krI (zEk 46 (.iconst (-1)) 1 w46 :: es) σ [y0] [] = zev zc0 G 0 krI es σ [y0] [vI w46] := rfl
noncomputable def d_X7_peek (σ : zH)  : Option (zH × Int32) :=
  if (σ.1 7 0 1) < 0 then
    some (σ, (-1 : Int32))
  else
    if (σ.1 7 0 1) < (σ.1 9 0 1) then
      if (σ.1 7 0 1) < (400 : Int32) then
        ix (σ.1 7 0 1) 400 fun j1 =>
        some (σ, (σ.1 37 0 j1))
      else
        some (σ, (-1 : Int32))
    else
      some (σ, (-1 : Int32))
theorem e_X7_peek (σ : zH)  : d_X7_peek σ = zin zc0 (fun t => none) 0 krI b_X7_peek 0 σ [vR 7 0] [] := by
  unfold d_X7_peek
  refine Eq.symm ((zin_b (es := q_X7_peek_0) rfl).trans ?_)
  refine (t_X7_peek_0 _ _).trans ?_
  refine x_if.trans (pif_lt ?_ ?_)
  · refine (zrun_b (es := q_X7_peek_46) rfl rfl).trans ?_
    refine (t_X7_peek_46 _ _ _ _).trans ?_
    exact x_iret
  · refine (t_X7_peek_7 _ _).trans ?_
    refine x_icmp.trans (pif_ge ?_ ?_)
    · refine (zrun_b (es := q_X7_peek_46) rfl rfl).trans ?_
      refine (t_X7_peek_46 _ _ _ _).trans ?_
      exact x_iret
    · refine (t_X7_peek_21 _ _ _).trans ?_
      refine x_icmp.trans (pif_ge ?_ ?_)
      · refine (zrun_b (es := q_X7_peek_46) rfl rfl).trans ?_
        refine (t_X7_peek_46 _ _ _ _).trans ?_
        exact x_iret
      · refine (t_X7_peek_31 _ _).trans ?_
        refine (x_iald (N := 400) rfl rfl).trans (pix fun _ => ?_)
        refine x_goto.trans ?_
        refine (zrun_b (es := q_X7_peek_47) rfl rfl).trans ?_
        exact x_iret
noncomputable def g_X7_peek {ρ : Type} (σ : zH) (av : List zAV) (q : zH → zAV → Option ρ) : Option ρ := match av with
  | [.inr (.inr (.inl (7, 0)))] => (d_X7_peek σ).bind fun p => q p.1 (vI p.2)
  | _ => none
theorem gr_X7_peek {ρ : Type} (σ : zH)  (q : zH → zAV → Option ρ) : g_X7_peek σ [vR 7 0] q = (d_X7_peek σ).bind fun p => q p.1 (vI p.2) := rfl
theorem c_X7_peek {ρ : Type} {X : zX} (hX : zHX X) {σ : zH} {av : List zAV} {q : zH → zAV → Option ρ} {r : ρ} (h : g_X7_peek σ av q = some r) (hv : ∀ a ∈ av, zval X a) : zcon X 64 σ av q r := by
  unfold g_X7_peek at h
  split at h
  · exact zcon_I (n := 64) (ml := 1) (rc := 0) (st := 0) (kd := 7) (np := 0) (by decide +kernel) (by decide) ⟨_, _, rfl, rfl⟩ (Nat.le_of_ble_eq_true rfl) hv h (fun y h1 => (zin_ok (hy_X7_peek hX) bk_X7_peek (fun t f hf => by
      cases hf) ((e_X7_peek _).symm.trans h1)))
  · cases h
/-! SleepWaves$Scanner.readNumber()V -/
def q_X7_readNumber_10 : List zEnt := zEk 10 (.iconst 0) 1 0 :: zE 11 (.istore_n 1) 1 :: [zE 12 .nop 0]
def q_X7_readNumber_7 : List zEnt := zEf 7 (.putfield 34) 3 7 4 11 (0, 0, 0) :: q_X7_readNumber_10
def q_X7_readNumber_5 : List zEnt := zE 5 (.aload_n 0) 1 :: zEk 6 (.iconst 0) 1 0 :: q_X7_readNumber_7
def q_X7_readNumber_2 : List zEnt := zEf 2 (.putfield 31) 3 7 3 9 (0, 0, 0) :: q_X7_readNumber_5
def q_X7_readNumber_0 : List zEnt := zE 0 (.aload_n 0) 1 :: zEk 1 (.iconst 1) 1 1 :: q_X7_readNumber_2
def q_X7_readNumber_44 : List zEnt := zEa 44 (.goto 18) 3 62 :: []
def q_X7_readNumber_43 : List zEnt := zEk 43 (.iconst (-1)) 1 (-1) :: q_X7_readNumber_44
def q_X7_readNumber_40 : List zEnt := zEa 40 (.if_icmp .lt 7) 3 47 :: q_X7_readNumber_43
def q_X7_readNumber_37 : List zEnt := zE 37 (.aload_n 0) 1 :: zE 38 (.iload_n 1) 1 :: zEk 39 (.iconst 5) 1 5 :: q_X7_readNumber_40
def q_X7_readNumber_34 : List zEnt := zEa 34 (.if_icmp .gt 47) 3 81 :: q_X7_readNumber_37
def q_X7_readNumber_32 : List zEnt := zEk 32 (.bipush 57) 2 57 :: q_X7_readNumber_34
def q_X7_readNumber_29 : List zEnt := zEc 29 (.invokevirtual 27) 3 64 1 5 0 :: q_X7_readNumber_32
def q_X7_readNumber_28 : List zEnt := zE 28 (.aload_n 0) 1 :: q_X7_readNumber_29
def q_X7_readNumber_25 : List zEnt := zEa 25 (.if_icmp .lt 56) 3 81 :: q_X7_readNumber_28
def q_X7_readNumber_23 : List zEnt := zEk 23 (.bipush 48) 2 48 :: q_X7_readNumber_25
def q_X7_readNumber_20 : List zEnt := zEc 20 (.invokevirtual 27) 3 64 1 5 0 :: q_X7_readNumber_23
def q_X7_readNumber_19 : List zEnt := zE 19 (.aload_n 0) 1 :: q_X7_readNumber_20
def q_X7_readNumber_16 : List zEnt := zEa 16 (.if_icmp .ge 65) 3 81 :: q_X7_readNumber_19
def q_X7_readNumber_12 : List zEnt := zE 12 (.iload_n 1) 1 :: zEk 13 (.sipush 400) 3 400 :: q_X7_readNumber_16
def q_X7_readNumber_58 : List zEnt := zE 58 .iadd 1 :: zEk 59 (.bipush 48) 2 48 :: zE 61 .isub 1 :: [zE 62 .nop 0]
def q_X7_readNumber_55 : List zEnt := zEc 55 (.invokevirtual 27) 3 64 1 5 0 :: q_X7_readNumber_58
def q_X7_readNumber_47 : List zEnt := zE 47 (.aload_n 0) 1 :: zEf 48 (.getfield 34) 3 7 4 11 (0, 0, 0) :: zEk 51 (.bipush 10) 2 10 :: zE 53 .imul 1 :: zE 54 (.aload_n 0) 1 :: q_X7_readNumber_55
def q_X7_readNumber_78 : List zEnt := zEa 78 (.goto (-66)) 3 12 :: []
def q_X7_readNumber_75 : List zEnt := zEk 75 (.iinc 1 1) 3 1 :: q_X7_readNumber_78
def q_X7_readNumber_72 : List zEnt := zEf 72 (.putfield 15) 3 7 1 6 (0, 0, 0) :: q_X7_readNumber_75
def q_X7_readNumber_65 : List zEnt := zE 65 (.aload_n 0) 1 :: zE 66 .dup 1 :: zEf 67 (.getfield 15) 3 7 1 6 (0, 0, 0) :: zEk 70 (.iconst 1) 1 1 :: zE 71 .iadd 1 :: q_X7_readNumber_72
def q_X7_readNumber_62 : List zEnt := zEf 62 (.putfield 34) 3 7 4 11 (0, 0, 0) :: q_X7_readNumber_65
def q_X7_readNumber_81 : List zEnt := zE 81 .return_ 1 :: []
def b_X7_readNumber : List (Nat × List zEnt) := [(0, q_X7_readNumber_0), (12, q_X7_readNumber_12), (47, q_X7_readNumber_47), (62, q_X7_readNumber_62), (81, q_X7_readNumber_81)]
theorem bk_X7_readNumber : zchB 65 b_X7_readNumber = true := by decide +kernel
noncomputable def cc_X7_readNumber {ρ : Type} : Nat → zH → List zAV → (zH → zAV → Option ρ) → Option ρ := fun n σ av q => if n = 64 then g_X7_peek σ av q else none
theorem cs_X7_readNumber {ρ : Type} {X : zX} (hX : zHX X) : zCS X (cc_X7_readNumber (ρ := ρ)) := by
  intro n σ av q r h hv
  unfold cc_X7_readNumber at h
  by_cases e_X7_peek : n = 64
  · rw [if_pos e_X7_peek] at h
    subst e_X7_peek
    exact c_X7_peek hX h hv
  rw [if_neg e_X7_peek] at h
  cases h
theorem cl_X7_readNumber_X7_peek {ρ : Type} (σ : zH) (av : List zAV) (q : zH → zAV → Option ρ) : cc_X7_readNumber 64 σ av q = g_X7_peek σ av q := rfl
theorem hy_X7_readNumber {ρ : Type} {X : zX} (hX : zHX X) : zHY X 65 (cc_X7_readNumber (ρ := ρ)) := zHX.hY hX (cs_X7_readNumber hX) (zmok_all 65 (by decide))
def gl_X7_readNumber_12 {ρ : Type} (f : zH → Int32 → Option ρ) (σ : zH) (L st : List zAV) : Option ρ := match L, st with
  | [.inr (.inr (.inl (7, 0))), .inl x1], [] => f σ x1
  | _, _ => none
def gl_X7_readNumber_62 {ρ : Type} (f : zH → Int32 → Int32 → Option ρ) (σ : zH) (L st : List zAV) : Option ρ := match L, st with
  | [.inr (.inr (.inl (7, 0))), .inl x1], [.inl xs1, .inr (.inr (.inl (7, 0)))] => f σ x1 xs1
  | _, _ => none
theorem glr_X7_readNumber_12 {ρ : Type} (f : zH → Int32 → Option ρ) (σ : zH) (x1 : Int32)  : gl_X7_readNumber_12 f σ [vR 7 0, vI x1] [] = f σ x1 := rfl
theorem glr_X7_readNumber_62 {ρ : Type} (f : zH → Int32 → Int32 → Option ρ) (σ : zH) (x1 : Int32) (xs1 : Int32)  : gl_X7_readNumber_62 f σ [vR 7 0, vI x1] [vI xs1, vR 7 0] = f σ x1 xs1 := rfl
theorem t_X7_readNumber_0 {G : Nat → zH → List zAV → List zAV → Option zH} (es : List zEnt) (σ : zH)  (y1 : zAV) (w1 : Int32) : zev cc_X7_readNumber G 9 krV (zE 0 (.aload_n 0) 1 :: zEk 1 (.iconst 1) 1 w1 :: es) σ [vR 7 0, y1] [] = zev cc_X7_readNumber G 9 krV es σ [vR 7 0, y1] [vI w1, vR 7 0] := rfl
theorem t_X7_readNumber_5 {G : Nat → zH → List zAV → List zAV → Option zH} (es : List zEnt) (σ : zH)  (y1 : zAV) (w6 : Int32) : zev cc_X7_readNumber G 9 krV (zE 5 (.aload_n 0) 1 :: zEk 6 (.iconst 0) 1 w6 :: es) σ [vR 7 0, y1] [] = zev cc_X7_readNumber G 9 krV es σ [vR 7 0, y1] [vI w6, vR 7 0] := rfl
theorem t_X7_readNumber_10 {G : Nat → zH → List zAV → List zAV → Option zH} (es : List zEnt) (σ : zH)  (y1 : zAV) (w10 : Int32) : zev cc_X7_readNumber G 9 krV (zEk 10 (.iconst 0) 1 w10 :: zE 11 (.istore_n 1) 1 :: es) σ [vR 7 0, y1] [] = zev cc_X7_readNumber G 9 krV es σ [vR 7 0, vI w10] [] := rfl
theorem t_X7_readNumber_12 {G : Nat → zH → List zAV → List zAV → Option zH} (es : List zEnt) (σ : zH) (x1 : Int32)  (w13 : Int32) : zev cc_X7_readNumber G 9 krV (zE 12 (.iload_n 1) 1 :: zEk 13 (.sipush 400) 3 w13 :: es) σ [vR 7 0, vI x1] [] = zev cc_X7_readNumber G 9 krV es σ [vR 7 0, vI x1] [vI w13, vI x1] := rfl
theorem t_X7_readNumber_19 {G : Nat → zH → List zAV → List zAV → Option zH} (es : List zEnt) (σ : zH) (x1 : Int32)   : zev cc_X7_readNumber G 9 krV (zE 19 (.aload_n 0) 1 :: es) σ [vR 7 0, vI x1] [] = zev cc_X7_readNumber G 9 krV es σ [vR 7 0, vI x1] [vR 7 0] := rfl
theorem t_X7_readNumber_23 {G : Nat → zH → List zAV → List zAV → Option zH} (es : List zEnt) (σ : zH) (x1 : Int32) (xs0 : Int32)  (w23 : Int32) : zev cc_X7_readNumber G 9 krV (zEk 23 (.bipush 48) 2 w23 :: es) σ [vR 7 0, vI x1] [vI xs0] = zev cc_X7_readNumber G 9 krV es σ [vR 7 0, vI x1] [vI w23, vI xs0] := rfl
theorem t_X7_readNumber_28 {G : Nat → zH → List zAV → List zAV → Option zH} (es : List zEnt) (σ : zH) (x1 : Int32)   : zev cc_X7_readNumber G 9 krV (zE 28 (.aload_n 0) 1 :: es) σ [vR 7 0, vI x1] [] = zev cc_X7_readNumber G 9 krV es σ [vR 7 0, vI x1] [vR 7 0] := rfl
theorem t_X7_readNumber_32 {G : Nat → zH → List zAV → List zAV → Option zH} (es : List zEnt) (σ : zH) (x1 : Int32) (xs0 : Int32)  (w32 : Int32) : zev cc_X7_readNumber G 9 krV (zEk 32 (.bipush 57) 2 w32 :: es) σ [vR 7 0, vI x1] [vI xs0] = zev cc_X7_readNumber G 9 krV es σ [vR 7 0, vI x1] [vI w32, vI xs0] := rfl
theorem t_X7_readNumber_37 {G : Nat → zH → List zAV → List zAV → Option zH} (es : List zEnt) (σ : zH) (x1 : Int32)  (w39 : Int32) : zev cc_X7_readNumber G 9 krV (zE 37 (.aload_n 0) 1 :: zE 38 (.iload_n 1) 1 :: zEk 39 (.iconst 5) 1 w39 :: es) σ [vR 7 0, vI x1] [] = zev cc_X7_readNumber G 9 krV es σ [vR 7 0, vI x1] [vI w39, vI x1, vR 7 0] := rfl
theorem t_X7_readNumber_43 {G : Nat → zH → List zAV → List zAV → Option zH} (es : List zEnt) (σ : zH) (x1 : Int32)  (w43 : Int32) : zev cc_X7_readNumber G 9 krV (zEk 43 (.iconst (-1)) 1 w43 :: es) σ [vR 7 0, vI x1] [vR 7 0] = zev cc_X7_readNumber G 9 krV es σ [vR 7 0, vI x1] [vI w43, vR 7 0] := rfl
theorem t_X7_readNumber_47 {G : Nat → zH → List zAV → List zAV → Option zH} (es : List zEnt) (σ : zH) (x1 : Int32)  (w51 : Int32) : zev cc_X7_readNumber G 9 krV (zE 47 (.aload_n 0) 1 :: zEf 48 (.getfield 34) 3 7 4 11 (0, 0, 0) :: zEk 51 (.bipush 10) 2 w51 :: zE 53 .imul 1 :: zE 54 (.aload_n 0) 1 :: es) σ [vR 7 0, vI x1] [vR 7 0] = zev cc_X7_readNumber G 9 krV es σ [vR 7 0, vI x1] [vR 7 0, vI ((σ.1 7 0 4) * w51), vR 7 0] := rfl
theorem t_X7_readNumber_58 {G : Nat → zH → List zAV → List zAV → Option zH} (es : List zEnt) (σ : zH) (x1 : Int32) (xs1 : Int32) (xs2 : Int32)  (w59 : Int32) : zev cc_X7_readNumber G 9 krV (zE 58 .iadd 1 :: zEk 59 (.bipush 48) 2 w59 :: zE 61 .isub 1 :: es) σ [vR 7 0, vI x1] [vI xs2, vI xs1, vR 7 0] = zev cc_X7_readNumber G 9 krV es σ [vR 7 0, vI x1] [vI ((xs1 + xs2) - w59), vR 7 0] := rfl
theorem t_X7_readNumber_65 {G : Nat → zH → List zAV → List zAV → Option zH} (es : List zEnt) (σ : zH) (x1 : Int32)  (w70 : Int32) : zev cc_X7_readNumber G 9 krV (zE 65 (.aload_n 0) 1 :: zE 66 .dup 1 :: zEf 67 (.getfield 15) 3 7 1 6 (0, 0, 0) :: zEk 70 (.iconst 1) 1 w70 :: zE 71 .iadd 1 :: es) σ [vR 7 0, vI x1] [] = zev cc_X7_readNumber G 9 krV es σ [vR 7 0, vI x1] [vI ((σ.1 7 0 1) + w70), vR 7 0] := rfl
theorem t_X7_readNumber_75 {G : Nat → zH → List zAV → List zAV → Option zH} (es : List zEnt) (σ : zH) (x1 : Int32)  (w75 : Int32) : zev cc_X7_readNumber G 9 krV (zEk 75 (.iinc 1 1) 3 w75 :: es) σ [vR 7 0, vI x1] [] = zev cc_X7_readNumber G 9 krV es σ [vR 7 0, vI (x1 + w75)] [] := rfl
noncomputable def j_X7_readNumber_62 (c12 : zH → Int32 → Option zH) (σ : zH) (x1 : Int32) (xs1 : Int32) : Option zH :=
  zlet (uI σ 7 0 4 xs1) fun σ1 =>
  zlet (uI σ1 7 0 1 ((σ1.1 7 0 1) + (1 : Int32))) fun σ2 =>
  c12 σ2 (x1 + (1 : Int32))
theorem e_X7_readNumber_62 (c12 : zH → Int32 → Option zH) (σ : zH) (x1 : Int32) (xs1 : Int32)  : j_X7_readNumber_62 c12 σ x1 xs1 = zin cc_X7_readNumber (fun t => if t = 12 then some (gl_X7_readNumber_12 c12) else none) 9 krV b_X7_readNumber 62 σ [vR 7 0, vI x1] [vI xs1, vR 7 0] := by
  unfold j_X7_readNumber_62
  refine Eq.symm ((zin_b (es := q_X7_readNumber_62) rfl).trans ?_)
  refine x_pf0.trans (plt fun _ => ?_)
  refine (t_X7_readNumber_65 _ _ _ _).trans ?_
  refine x_pf0.trans (plt fun _ => ?_)
  refine (t_X7_readNumber_75 _ _ _ _).trans ?_
  refine x_goto.trans ?_
  exact (zrun_c rfl).trans (glr_X7_readNumber_12 _ _ _)
theorem s_X7_readNumber_62 {X : zX} (hX : zHX X) {c12 : zH → Int32 → Option zH} (h12 : ∀ σ L st r, gl_X7_readNumber_12 c12 σ L st = some r → zGW X 65 krV 12 σ L st r) : ∀ σ L st r, gl_X7_readNumber_62 (j_X7_readNumber_62 c12) σ L st = some r → zGW X 65 krV 62 σ L st r := by
  intro σ L st r h
  unfold gl_X7_readNumber_62 at h
  split at h
  · exact zin_ok (hy_X7_readNumber hX) bk_X7_readNumber (fun t f hf => by
    by_cases e12 : t = 12
    · rw [if_pos e12] at hf; subst e12; cases hf; exact h12
    rw [if_neg e12] at hf
    cases hf) ((e_X7_readNumber_62 _ _ _ _).symm.trans h)
  · cases h
noncomputable def k_X7_readNumber_12  : Nat → zH → Int32 → Option zH
  | 0, _, _ => none
  | n + 1, σ, x1 =>
    if x1 < (400 : Int32) then
      (d_X7_peek σ).bind fun p1 =>
      if p1.2 < (48 : Int32) then
        some p1.1
      else
        (d_X7_peek p1.1).bind fun p2 =>
        if (57 : Int32) < p2.2 then
          some p2.1
        else
          if x1 < (5 : Int32) then
            (d_X7_peek p2.1).bind fun p3 =>
            (j_X7_readNumber_62 (k_X7_readNumber_12 n)) p3.1 x1 ((((p2.1.1 7 0 4) * (10 : Int32)) + p3.2) - (48 : Int32))
          else
            (j_X7_readNumber_62 (k_X7_readNumber_12 n)) p2.1 x1 (-1 : Int32)
    else
      some σ
theorem e_X7_readNumber_12  (n : Nat) (σ : zH) (x1 : Int32)  : k_X7_readNumber_12 (n + 1) σ x1 = zin cc_X7_readNumber (fun t => if t = 62 then some (gl_X7_readNumber_62 (j_X7_readNumber_62 (k_X7_readNumber_12 n))) else none) 9 krV b_X7_readNumber 12 σ [vR 7 0, vI x1] [] := by
  rw [k_X7_readNumber_12]
  refine Eq.symm ((zin_b (es := q_X7_readNumber_12) rfl).trans ?_)
  refine (t_X7_readNumber_12 _ _ _ _).trans ?_
  refine x_icmp.trans (pif_ge ?_ ?_)
  · refine (zrun_b (es := q_X7_readNumber_81) rfl rfl).trans ?_
    exact x_vret
  · refine (t_X7_readNumber_19 _ _ _).trans ?_
    refine (x_callV rfl rfl rfl rfl).trans ((cl_X7_readNumber_X7_peek _ _ _).trans ((gr_X7_peek _ _).trans (pbd fun _ => ?_)))
    refine (t_X7_readNumber_23 _ _ _ _ _).trans ?_
    refine x_icmp.trans (pif_lt ?_ ?_)
    · refine (zrun_b (es := q_X7_readNumber_81) rfl rfl).trans ?_
      exact x_vret
    · refine (t_X7_readNumber_28 _ _ _).trans ?_
      refine (x_callV rfl rfl rfl rfl).trans ((cl_X7_readNumber_X7_peek _ _ _).trans ((gr_X7_peek _ _).trans (pbd fun _ => ?_)))
      refine (t_X7_readNumber_32 _ _ _ _ _).trans ?_
      refine x_icmp.trans (pif_gt ?_ ?_)
      · refine (zrun_b (es := q_X7_readNumber_81) rfl rfl).trans ?_
        exact x_vret
      · refine (t_X7_readNumber_37 _ _ _ _).trans ?_
        refine x_icmp.trans (pif_lt ?_ ?_)
        · refine (zrun_b (es := q_X7_readNumber_47) rfl rfl).trans ?_
          refine (t_X7_readNumber_47 _ _ _ _).trans ?_
          refine (x_callV rfl rfl rfl rfl).trans ((cl_X7_readNumber_X7_peek _ _ _).trans ((gr_X7_peek _ _).trans (pbd fun _ => ?_)))
          refine (t_X7_readNumber_58 _ _ _ _ _ _).trans ?_
          refine x_cut.trans ?_
          exact (zrun_c rfl).trans (glr_X7_readNumber_62 _ _ _ _)
        · refine (t_X7_readNumber_43 _ _ _ _).trans ?_
          refine x_goto.trans ?_
          exact (zrun_c rfl).trans (glr_X7_readNumber_62 _ _ _ _)
theorem s_X7_readNumber_12 {X : zX} (hX : zHX X)   : ∀ n σ L st r, gl_X7_readNumber_12 (k_X7_readNumber_12 n) σ L st = some r → zGW X 65 krV 12 σ L st r := by
  intro n
  induction n with
  | zero =>
    intro σ L st r h
    unfold gl_X7_readNumber_12 at h
    split at h <;> cases h
  | succ n ih =>
    intro σ L st r h
    unfold gl_X7_readNumber_12 at h
    split at h
    · exact zin_ok (hy_X7_readNumber hX) bk_X7_readNumber (fun t f hf => by
      by_cases e62 : t = 62
      · rw [if_pos e62] at hf; subst e62; cases hf; exact (s_X7_readNumber_62 hX ih)
      rw [if_neg e62] at hf
      cases hf) ((e_X7_readNumber_12 _ _ _).symm.trans h)
    · cases h
noncomputable def d_X7_readNumber (σ : zH)  : Option zH :=
  zlet (uI σ 7 0 3 (1 : Int32)) fun σ1 =>
  zlet (uI σ1 7 0 4 (0 : Int32)) fun σ2 =>
  (k_X7_readNumber_12 zN) σ2 (0 : Int32)
theorem e_X7_readNumber (σ : zH)  : d_X7_readNumber σ = zin cc_X7_readNumber (fun t => if t = 12 then some (gl_X7_readNumber_12 (k_X7_readNumber_12 zN)) else none) 9 krV b_X7_readNumber 0 σ [vR 7 0, vU] [] := by
  unfold d_X7_readNumber
  refine Eq.symm ((zin_b (es := q_X7_readNumber_0) rfl).trans ?_)
  refine (t_X7_readNumber_0 _ _ _ _).trans ?_
  refine x_pf0.trans (plt fun _ => ?_)
  refine (t_X7_readNumber_5 _ _ _ _).trans ?_
  refine x_pf0.trans (plt fun _ => ?_)
  refine (t_X7_readNumber_10 _ _ _ _).trans ?_
  refine x_cut.trans ?_
  exact (zrun_c rfl).trans (glr_X7_readNumber_12 _ _ _)
noncomputable def g_X7_readNumber {ρ : Type} (σ : zH) (av : List zAV) (q : zH → zAV → Option ρ) : Option ρ := match av with
  | [.inr (.inr (.inl (7, 0)))] => (d_X7_readNumber σ).bind fun σ => q σ vU
  | _ => none
theorem gr_X7_readNumber {ρ : Type} (σ : zH)  (q : zH → zAV → Option ρ) : g_X7_readNumber σ [vR 7 0] q = (d_X7_readNumber σ).bind fun σ => q σ vU := rfl
theorem c_X7_readNumber {ρ : Type} {X : zX} (hX : zHX X) {σ : zH} {av : List zAV} {q : zH → zAV → Option ρ} {r : ρ} (h : g_X7_readNumber σ av q = some r) (hv : ∀ a ∈ av, zval X a) : zcon X 65 σ av q r := by
  unfold g_X7_readNumber at h
  split at h
  · exact zcon_V (n := 65) (ml := 2) (rc := 9) (st := 0) (kd := 7) (np := 0) (by decide +kernel) rfl ⟨_, _, rfl, rfl⟩ (Nat.le_of_ble_eq_true rfl) hv h (fun y h1 => (zin_ok (hy_X7_readNumber hX) bk_X7_readNumber (fun t f hf => by
      by_cases e12 : t = 12
      · rw [if_pos e12] at hf; subst e12; cases hf; exact ((fun σ L st r h => s_X7_readNumber_12 hX  zN σ L st r h))
      rw [if_neg e12] at hf
      cases hf) ((e_X7_readNumber _).symm.trans h1)))
  · cases h
/-! SleepWaves$Scanner.readWord()V -/
def q_X7_readWord_5 : List zEnt := zEk 5 (.iconst 0) 1 0 :: zE 6 (.istore_n 1) 1 :: [zE 7 .nop 0]
def q_X7_readWord_2 : List zEnt := zEf 2 (.putfield 31) 3 7 3 9 (0, 0, 0) :: q_X7_readWord_5
def q_X7_readWord_0 : List zEnt := zE 0 (.aload_n 0) 1 :: zEk 1 (.iconst 2) 1 2 :: q_X7_readWord_2
def q_X7_readWord_45 : List zEnt := zEa 45 (.goto (-38)) 3 7 :: []
def q_X7_readWord_42 : List zEnt := zEk 42 (.iinc 1 1) 3 1 :: q_X7_readWord_45
def q_X7_readWord_39 : List zEnt := zEf 39 (.putfield 15) 3 7 1 6 (0, 0, 0) :: q_X7_readWord_42
def q_X7_readWord_32 : List zEnt := zE 32 (.aload_n 0) 1 :: zE 33 .dup 1 :: zEf 34 (.getfield 15) 3 7 1 6 (0, 0, 0) :: zEk 37 (.iconst 1) 1 1 :: zE 38 .iadd 1 :: q_X7_readWord_39
def q_X7_readWord_29 : List zEnt := zEa 29 (.if_icmp .gt 19) 3 48 :: q_X7_readWord_32
def q_X7_readWord_27 : List zEnt := zEk 27 (.bipush 122) 2 122 :: q_X7_readWord_29
def q_X7_readWord_24 : List zEnt := zEc 24 (.invokevirtual 27) 3 64 1 5 0 :: q_X7_readWord_27
def q_X7_readWord_23 : List zEnt := zE 23 (.aload_n 0) 1 :: q_X7_readWord_24
def q_X7_readWord_20 : List zEnt := zEa 20 (.if_icmp .lt 28) 3 48 :: q_X7_readWord_23
def q_X7_readWord_18 : List zEnt := zEk 18 (.bipush 97) 2 97 :: q_X7_readWord_20
def q_X7_readWord_15 : List zEnt := zEc 15 (.invokevirtual 27) 3 64 1 5 0 :: q_X7_readWord_18
def q_X7_readWord_14 : List zEnt := zE 14 (.aload_n 0) 1 :: q_X7_readWord_15
def q_X7_readWord_11 : List zEnt := zEa 11 (.if_icmp .ge 37) 3 48 :: q_X7_readWord_14
def q_X7_readWord_7 : List zEnt := zE 7 (.iload_n 1) 1 :: zEk 8 (.sipush 400) 3 400 :: q_X7_readWord_11
def q_X7_readWord_61 : List zEnt := zE 61 .return_ 1 :: []
def q_X7_readWord_58 : List zEnt := zEf 58 (.putfield 34) 3 7 4 11 (0, 0, 0) :: q_X7_readWord_61
def q_X7_readWord_48 : List zEnt := zE 48 (.aload_n 0) 1 :: zE 49 (.aload_n 0) 1 :: zEf 50 (.getfield 15) 3 7 1 6 (0, 0, 0) :: zE 53 (.aload_n 0) 1 :: zEf 54 (.getfield 22) 3 7 2 7 (0, 0, 0) :: zE 57 .isub 1 :: q_X7_readWord_58
def b_X7_readWord : List (Nat × List zEnt) := [(0, q_X7_readWord_0), (7, q_X7_readWord_7), (48, q_X7_readWord_48)]
theorem bk_X7_readWord : zchB 66 b_X7_readWord = true := by decide +kernel
noncomputable def cc_X7_readWord {ρ : Type} : Nat → zH → List zAV → (zH → zAV → Option ρ) → Option ρ := fun n σ av q => if n = 64 then g_X7_peek σ av q else none
theorem cs_X7_readWord {ρ : Type} {X : zX} (hX : zHX X) : zCS X (cc_X7_readWord (ρ := ρ)) := by
  intro n σ av q r h hv
  unfold cc_X7_readWord at h
  by_cases e_X7_peek : n = 64
  · rw [if_pos e_X7_peek] at h
    subst e_X7_peek
    exact c_X7_peek hX h hv
  rw [if_neg e_X7_peek] at h
  cases h
theorem cl_X7_readWord_X7_peek {ρ : Type} (σ : zH) (av : List zAV) (q : zH → zAV → Option ρ) : cc_X7_readWord 64 σ av q = g_X7_peek σ av q := rfl
theorem hy_X7_readWord {ρ : Type} {X : zX} (hX : zHX X) : zHY X 66 (cc_X7_readWord (ρ := ρ)) := zHX.hY hX (cs_X7_readWord hX) (zmok_all 66 (by decide))
def gl_X7_readWord_7 {ρ : Type} (f : zH → Int32 → Option ρ) (σ : zH) (L st : List zAV) : Option ρ := match L, st with
  | [.inr (.inr (.inl (7, 0))), .inl x1], [] => f σ x1
  | _, _ => none
def gl_X7_readWord_48 {ρ : Type} (f : zH → Option ρ) (σ : zH) (L st : List zAV) : Option ρ := match L, st with
  | [.inr (.inr (.inl (7, 0))), _], [] => f σ
  | _, _ => none
theorem glr_X7_readWord_7 {ρ : Type} (f : zH → Int32 → Option ρ) (σ : zH) (x1 : Int32)  : gl_X7_readWord_7 f σ [vR 7 0, vI x1] [] = f σ x1 := rfl
theorem glr_X7_readWord_48 {ρ : Type} (f : zH → Option ρ) (σ : zH)  (y1 : zAV) : gl_X7_readWord_48 f σ [vR 7 0, y1] [] = f σ := rfl
theorem t_X7_readWord_0 {G : Nat → zH → List zAV → List zAV → Option zH} (es : List zEnt) (σ : zH)  (y1 : zAV) (w1 : Int32) : zev cc_X7_readWord G 9 krV (zE 0 (.aload_n 0) 1 :: zEk 1 (.iconst 2) 1 w1 :: es) σ [vR 7 0, y1] [] = zev cc_X7_readWord G 9 krV es σ [vR 7 0, y1] [vI w1, vR 7 0] := rfl
theorem t_X7_readWord_5 {G : Nat → zH → List zAV → List zAV → Option zH} (es : List zEnt) (σ : zH)  (y1 : zAV) (w5 : Int32) : zev cc_X7_readWord G 9 krV (zEk 5 (.iconst 0) 1 w5 :: zE 6 (.istore_n 1) 1 :: es) σ [vR 7 0, y1] [] = zev cc_X7_readWord G 9 krV es σ [vR 7 0, vI w5] [] := rfl
theorem t_X7_readWord_7 {G : Nat → zH → List zAV → List zAV → Option zH} (es : List zEnt) (σ : zH) (x1 : Int32)  (w8 : Int32) : zev cc_X7_readWord G 9 krV (zE 7 (.iload_n 1) 1 :: zEk 8 (.sipush 400) 3 w8 :: es) σ [vR 7 0, vI x1] [] = zev cc_X7_readWord G 9 krV es σ [vR 7 0, vI x1] [vI w8, vI x1] := rfl
theorem t_X7_readWord_14 {G : Nat → zH → List zAV → List zAV → Option zH} (es : List zEnt) (σ : zH) (x1 : Int32)   : zev cc_X7_readWord G 9 krV (zE 14 (.aload_n 0) 1 :: es) σ [vR 7 0, vI x1] [] = zev cc_X7_readWord G 9 krV es σ [vR 7 0, vI x1] [vR 7 0] := rfl
theorem t_X7_readWord_18 {G : Nat → zH → List zAV → List zAV → Option zH} (es : List zEnt) (σ : zH) (x1 : Int32) (xs0 : Int32)  (w18 : Int32) : zev cc_X7_readWord G 9 krV (zEk 18 (.bipush 97) 2 w18 :: es) σ [vR 7 0, vI x1] [vI xs0] = zev cc_X7_readWord G 9 krV es σ [vR 7 0, vI x1] [vI w18, vI xs0] := rfl
theorem t_X7_readWord_23 {G : Nat → zH → List zAV → List zAV → Option zH} (es : List zEnt) (σ : zH) (x1 : Int32)   : zev cc_X7_readWord G 9 krV (zE 23 (.aload_n 0) 1 :: es) σ [vR 7 0, vI x1] [] = zev cc_X7_readWord G 9 krV es σ [vR 7 0, vI x1] [vR 7 0] := rfl
theorem t_X7_readWord_27 {G : Nat → zH → List zAV → List zAV → Option zH} (es : List zEnt) (σ : zH) (x1 : Int32) (xs0 : Int32)  (w27 : Int32) : zev cc_X7_readWord G 9 krV (zEk 27 (.bipush 122) 2 w27 :: es) σ [vR 7 0, vI x1] [vI xs0] = zev cc_X7_readWord G 9 krV es σ [vR 7 0, vI x1] [vI w27, vI xs0] := rfl
theorem t_X7_readWord_32 {G : Nat → zH → List zAV → List zAV → Option zH} (es : List zEnt) (σ : zH) (x1 : Int32)  (w37 : Int32) : zev cc_X7_readWord G 9 krV (zE 32 (.aload_n 0) 1 :: zE 33 .dup 1 :: zEf 34 (.getfield 15) 3 7 1 6 (0, 0, 0) :: zEk 37 (.iconst 1) 1 w37 :: zE 38 .iadd 1 :: es) σ [vR 7 0, vI x1] [] = zev cc_X7_readWord G 9 krV es σ [vR 7 0, vI x1] [vI ((σ.1 7 0 1) + w37), vR 7 0] := rfl
theorem t_X7_readWord_42 {G : Nat → zH → List zAV → List zAV → Option zH} (es : List zEnt) (σ : zH) (x1 : Int32)  (w42 : Int32) : zev cc_X7_readWord G 9 krV (zEk 42 (.iinc 1 1) 3 w42 :: es) σ [vR 7 0, vI x1] [] = zev cc_X7_readWord G 9 krV es σ [vR 7 0, vI (x1 + w42)] [] := rfl
theorem t_X7_readWord_48 {G : Nat → zH → List zAV → List zAV → Option zH} (es : List zEnt) (σ : zH)  (y1 : zAV)  : zev cc_X7_readWord G 9 krV (zE 48 (.aload_n 0) 1 :: zE 49 (.aload_n 0) 1 :: zEf 50 (.getfield 15) 3 7 1 6 (0, 0, 0) :: zE 53 (.aload_n 0) 1 :: zEf 54 (.getfield 22) 3 7 2 7 (0, 0, 0) :: zE 57 .isub 1 :: es) σ [vR 7 0, y1] [] = zev cc_X7_readWord G 9 krV es σ [vR 7 0, y1] [vI ((σ.1 7 0 1) - (σ.1 7 0 2)), vR 7 0] := rfl
noncomputable def k_X7_readWord_7 (c48 : zH → Option zH) : Nat → zH → Int32 → Option zH
  | 0, _, _ => none
  | n + 1, σ, x1 =>
    if x1 < (400 : Int32) then
      (d_X7_peek σ).bind fun p1 =>
      if p1.2 < (97 : Int32) then
        c48 p1.1
      else
        (d_X7_peek p1.1).bind fun p2 =>
        if (122 : Int32) < p2.2 then
          c48 p2.1
        else
          zlet (uI p2.1 7 0 1 ((p2.1.1 7 0 1) + (1 : Int32))) fun σ3 =>
          (k_X7_readWord_7 c48 n) σ3 (x1 + (1 : Int32))
    else
      c48 σ
theorem e_X7_readWord_7 (c48 : zH → Option zH) (n : Nat) (σ : zH) (x1 : Int32)  : k_X7_readWord_7 c48 (n + 1) σ x1 = zin cc_X7_readWord (fun t => if t = 7 then some (gl_X7_readWord_7 (k_X7_readWord_7 c48 n)) else if t = 48 then some (gl_X7_readWord_48 c48) else none) 9 krV b_X7_readWord 7 σ [vR 7 0, vI x1] [] := by
  rw [k_X7_readWord_7]
  refine Eq.symm ((zin_b (es := q_X7_readWord_7) rfl).trans ?_)
  refine (t_X7_readWord_7 _ _ _ _).trans ?_
  refine x_icmp.trans (pif_ge ?_ ?_)
  · exact (zrun_c rfl).trans (glr_X7_readWord_48 _ _ _)
  · refine (t_X7_readWord_14 _ _ _).trans ?_
    refine (x_callV rfl rfl rfl rfl).trans ((cl_X7_readWord_X7_peek _ _ _).trans ((gr_X7_peek _ _).trans (pbd fun _ => ?_)))
    refine (t_X7_readWord_18 _ _ _ _ _).trans ?_
    refine x_icmp.trans (pif_lt ?_ ?_)
    · exact (zrun_c rfl).trans (glr_X7_readWord_48 _ _ _)
    · refine (t_X7_readWord_23 _ _ _).trans ?_
      refine (x_callV rfl rfl rfl rfl).trans ((cl_X7_readWord_X7_peek _ _ _).trans ((gr_X7_peek _ _).trans (pbd fun _ => ?_)))
      refine (t_X7_readWord_27 _ _ _ _ _).trans ?_
      refine x_icmp.trans (pif_gt ?_ ?_)
      · exact (zrun_c rfl).trans (glr_X7_readWord_48 _ _ _)
      · refine (t_X7_readWord_32 _ _ _ _).trans ?_
        refine x_pf0.trans (plt fun _ => ?_)
        refine (t_X7_readWord_42 _ _ _ _).trans ?_
        refine x_goto.trans ?_
        exact (zrun_c rfl).trans (glr_X7_readWord_7 _ _ _)
theorem s_X7_readWord_7 {X : zX} (hX : zHX X) {c48 : zH → Option zH} (h48 : ∀ σ L st r, gl_X7_readWord_48 c48 σ L st = some r → zGW X 66 krV 48 σ L st r) : ∀ n σ L st r, gl_X7_readWord_7 (k_X7_readWord_7 c48 n) σ L st = some r → zGW X 66 krV 7 σ L st r := by
  intro n
  induction n with
  | zero =>
    intro σ L st r h
    unfold gl_X7_readWord_7 at h
    split at h <;> cases h
  | succ n ih =>
    intro σ L st r h
    unfold gl_X7_readWord_7 at h
    split at h
    · exact zin_ok (hy_X7_readWord hX) bk_X7_readWord (fun t f hf => by
      by_cases e7 : t = 7
      · rw [if_pos e7] at hf; subst e7; cases hf; exact ih
      rw [if_neg e7] at hf
      by_cases e48 : t = 48
      · rw [if_pos e48] at hf; subst e48; cases hf; exact h48
      rw [if_neg e48] at hf
      cases hf) ((e_X7_readWord_7 _ _ _ _).symm.trans h)
    · cases h
noncomputable def j_X7_readWord_48  (σ : zH)  : Option zH :=
  zlet (uI σ 7 0 4 ((σ.1 7 0 1) - (σ.1 7 0 2))) fun σ1 =>
  some σ1
theorem e_X7_readWord_48  (σ : zH)  (y1 : zAV) : j_X7_readWord_48 σ = zin cc_X7_readWord (fun t => none) 9 krV b_X7_readWord 48 σ [vR 7 0, y1] [] := by
  unfold j_X7_readWord_48
  refine Eq.symm ((zin_b (es := q_X7_readWord_48) rfl).trans ?_)
  refine (t_X7_readWord_48 _ _ _).trans ?_
  refine x_pf0.trans (plt fun _ => ?_)
  exact x_vret
theorem s_X7_readWord_48 {X : zX} (hX : zHX X)   : ∀ σ L st r, gl_X7_readWord_48 j_X7_readWord_48 σ L st = some r → zGW X 66 krV 48 σ L st r := by
  intro σ L st r h
  unfold gl_X7_readWord_48 at h
  split at h
  · exact zin_ok (hy_X7_readWord hX) bk_X7_readWord (fun t f hf => by
    cases hf) ((e_X7_readWord_48 _ _).symm.trans h)
  · cases h
noncomputable def d_X7_readWord (σ : zH)  : Option zH :=
  zlet (uI σ 7 0 3 (2 : Int32)) fun σ1 =>
  (k_X7_readWord_7 j_X7_readWord_48 zN) σ1 (0 : Int32)
theorem e_X7_readWord (σ : zH)  : d_X7_readWord σ = zin cc_X7_readWord (fun t => if t = 7 then some (gl_X7_readWord_7 (k_X7_readWord_7 j_X7_readWord_48 zN)) else none) 9 krV b_X7_readWord 0 σ [vR 7 0, vU] [] := by
  unfold d_X7_readWord
  refine Eq.symm ((zin_b (es := q_X7_readWord_0) rfl).trans ?_)
  refine (t_X7_readWord_0 _ _ _ _).trans ?_
  refine x_pf0.trans (plt fun _ => ?_)
  refine (t_X7_readWord_5 _ _ _ _).trans ?_
  refine x_cut.trans ?_
  exact (zrun_c rfl).trans (glr_X7_readWord_7 _ _ _)
noncomputable def g_X7_readWord {ρ : Type} (σ : zH) (av : List zAV) (q : zH → zAV → Option ρ) : Option ρ := match av with
  | [.inr (.inr (.inl (7, 0)))] => (d_X7_readWord σ).bind fun σ => q σ vU
  | _ => none
theorem gr_X7_readWord {ρ : Type} (σ : zH)  (q : zH → zAV → Option ρ) : g_X7_readWord σ [vR 7 0] q = (d_X7_readWord σ).bind fun σ => q σ vU := rfl
theorem c_X7_readWord {ρ : Type} {X : zX} (hX : zHX X) {σ : zH} {av : List zAV} {q : zH → zAV → Option ρ} {r : ρ} (h : g_X7_readWord σ av q = some r) (hv : ∀ a ∈ av, zval X a) : zcon X 66 σ av q r := by
  unfold g_X7_readWord at h
  split at h
  · exact zcon_V (n := 66) (ml := 2) (rc := 9) (st := 0) (kd := 7) (np := 0) (by decide +kernel) rfl ⟨_, _, rfl, rfl⟩ (Nat.le_of_ble_eq_true rfl) hv h (fun y h1 => (zin_ok (hy_X7_readWord hX) bk_X7_readWord (fun t f hf => by
      by_cases e7 : t = 7
      · rw [if_pos e7] at hf; subst e7; cases hf; exact ((fun σ L st r h => s_X7_readWord_7 hX (s_X7_readWord_48 hX) zN σ L st r h))
      rw [if_neg e7] at hf
      cases hf) ((e_X7_readWord _).symm.trans h1)))
  · cases h
/-! SleepWaves$Scanner.readSign()V -/
def q_X7_readSign_58 : List zEnt := zEa 58 (.goto 38) 3 96 :: []
def q_X7_readSign_55 : List zEnt := zEf 55 (.putfield 15) 3 7 1 6 (0, 0, 0) :: q_X7_readSign_58
def q_X7_readSign_48 : List zEnt := zE 48 (.aload_n 0) 1 :: zE 49 .dup 1 :: zEf 50 (.getfield 15) 3 7 1 6 (0, 0, 0) :: zEk 53 (.iconst 1) 1 1 :: zE 54 .iadd 1 :: q_X7_readSign_55
def q_X7_readSign_45 : List zEnt := zEf 45 (.putfield 34) 3 7 4 11 (0, 0, 0) :: q_X7_readSign_48
def q_X7_readSign_41 : List zEnt := zE 41 (.aload_n 0) 1 :: zEk 42 (.sipush 256) 3 256 :: q_X7_readSign_45
def q_X7_readSign_38 : List zEnt := zEa 38 (.if_icmp .ne 23) 3 61 :: q_X7_readSign_41
def q_X7_readSign_32 : List zEnt := zE 32 (.aload_n 0) 1 :: zEf 33 (.getfield 34) 3 7 4 11 (0, 0, 0) :: zEk 36 (.bipush 60) 2 60 :: q_X7_readSign_38
def q_X7_readSign_29 : List zEnt := zEa 29 (.if_icmp .ne 32) 3 61 :: q_X7_readSign_32
def q_X7_readSign_27 : List zEnt := zEk 27 (.bipush 61) 2 61 :: q_X7_readSign_29
def q_X7_readSign_24 : List zEnt := zEc 24 (.invokevirtual 27) 3 64 1 5 0 :: q_X7_readSign_27
def q_X7_readSign_23 : List zEnt := zE 23 (.aload_n 0) 1 :: q_X7_readSign_24
def q_X7_readSign_20 : List zEnt := zEf 20 (.putfield 15) 3 7 1 6 (0, 0, 0) :: q_X7_readSign_23
def q_X7_readSign_13 : List zEnt := zE 13 (.aload_n 0) 1 :: zE 14 .dup 1 :: zEf 15 (.getfield 15) 3 7 1 6 (0, 0, 0) :: zEk 18 (.iconst 1) 1 1 :: zE 19 .iadd 1 :: q_X7_readSign_20
def q_X7_readSign_10 : List zEnt := zEf 10 (.putfield 34) 3 7 4 11 (0, 0, 0) :: q_X7_readSign_13
def q_X7_readSign_7 : List zEnt := zEc 7 (.invokevirtual 27) 3 64 1 5 0 :: q_X7_readSign_10
def q_X7_readSign_5 : List zEnt := zE 5 (.aload_n 0) 1 :: zE 6 (.aload_n 0) 1 :: q_X7_readSign_7
def q_X7_readSign_2 : List zEnt := zEf 2 (.putfield 31) 3 7 3 9 (0, 0, 0) :: q_X7_readSign_5
def q_X7_readSign_0 : List zEnt := zE 0 (.aload_n 0) 1 :: zEk 1 (.iconst 3) 1 3 :: q_X7_readSign_2
def q_X7_readSign_96 : List zEnt := zE 96 .return_ 1 :: []
def q_X7_readSign_93 : List zEnt := zEf 93 (.putfield 15) 3 7 1 6 (0, 0, 0) :: q_X7_readSign_96
def q_X7_readSign_86 : List zEnt := zE 86 (.aload_n 0) 1 :: zE 87 .dup 1 :: zEf 88 (.getfield 15) 3 7 1 6 (0, 0, 0) :: zEk 91 (.iconst 1) 1 1 :: zE 92 .iadd 1 :: q_X7_readSign_93
def q_X7_readSign_83 : List zEnt := zEf 83 (.putfield 34) 3 7 4 11 (0, 0, 0) :: q_X7_readSign_86
def q_X7_readSign_79 : List zEnt := zE 79 (.aload_n 0) 1 :: zEk 80 (.sipush 257) 3 257 :: q_X7_readSign_83
def q_X7_readSign_76 : List zEnt := zEa 76 (.if_icmp .ne 20) 3 96 :: q_X7_readSign_79
def q_X7_readSign_70 : List zEnt := zE 70 (.aload_n 0) 1 :: zEf 71 (.getfield 34) 3 7 4 11 (0, 0, 0) :: zEk 74 (.bipush 62) 2 62 :: q_X7_readSign_76
def q_X7_readSign_67 : List zEnt := zEa 67 (.if_icmp .ne 29) 3 96 :: q_X7_readSign_70
def q_X7_readSign_65 : List zEnt := zEk 65 (.bipush 61) 2 61 :: q_X7_readSign_67
def q_X7_readSign_62 : List zEnt := zEc 62 (.invokevirtual 27) 3 64 1 5 0 :: q_X7_readSign_65
def q_X7_readSign_61 : List zEnt := zE 61 (.aload_n 0) 1 :: q_X7_readSign_62
def b_X7_readSign : List (Nat × List zEnt) := [(0, q_X7_readSign_0), (61, q_X7_readSign_61), (96, q_X7_readSign_96)]
theorem bk_X7_readSign : zchB 67 b_X7_readSign = true := by decide +kernel
noncomputable def cc_X7_readSign {ρ : Type} : Nat → zH → List zAV → (zH → zAV → Option ρ) → Option ρ := fun n σ av q => if n = 64 then g_X7_peek σ av q else none
theorem cs_X7_readSign {ρ : Type} {X : zX} (hX : zHX X) : zCS X (cc_X7_readSign (ρ := ρ)) := by
  intro n σ av q r h hv
  unfold cc_X7_readSign at h
  by_cases e_X7_peek : n = 64
  · rw [if_pos e_X7_peek] at h
    subst e_X7_peek
    exact c_X7_peek hX h hv
  rw [if_neg e_X7_peek] at h
  cases h
theorem cl_X7_readSign_X7_peek {ρ : Type} (σ : zH) (av : List zAV) (q : zH → zAV → Option ρ) : cc_X7_readSign 64 σ av q = g_X7_peek σ av q := rfl
theorem hy_X7_readSign {ρ : Type} {X : zX} (hX : zHX X) : zHY X 67 (cc_X7_readSign (ρ := ρ)) := zHX.hY hX (cs_X7_readSign hX) (zmok_all 67 (by decide))
def gl_X7_readSign_61 {ρ : Type} (f : zH → Option ρ) (σ : zH) (L st : List zAV) : Option ρ := match L, st with
  | [.inr (.inr (.inl (7, 0)))], [] => f σ
  | _, _ => none
theorem glr_X7_readSign_61 {ρ : Type} (f : zH → Option ρ) (σ : zH)   : gl_X7_readSign_61 f σ [vR 7 0] [] = f σ := rfl
theorem t_X7_readSign_0 {G : Nat → zH → List zAV → List zAV → Option zH} (es : List zEnt) (σ : zH)   (w1 : Int32) : zev cc_X7_readSign G 9 krV (zE 0 (.aload_n 0) 1 :: zEk 1 (.iconst 3) 1 w1 :: es) σ [vR 7 0] [] = zev cc_X7_readSign G 9 krV es σ [vR 7 0] [vI w1, vR 7 0] := rfl
theorem t_X7_readSign_5 {G : Nat → zH → List zAV → List zAV → Option zH} (es : List zEnt) (σ : zH)    : zev cc_X7_readSign G 9 krV (zE 5 (.aload_n 0) 1 :: zE 6 (.aload_n 0) 1 :: es) σ [vR 7 0] [] = zev cc_X7_readSign G 9 krV es σ [vR 7 0] [vR 7 0, vR 7 0] := rfl
theorem t_X7_readSign_13 {G : Nat → zH → List zAV → List zAV → Option zH} (es : List zEnt) (σ : zH)   (w18 : Int32) : zev cc_X7_readSign G 9 krV (zE 13 (.aload_n 0) 1 :: zE 14 .dup 1 :: zEf 15 (.getfield 15) 3 7 1 6 (0, 0, 0) :: zEk 18 (.iconst 1) 1 w18 :: zE 19 .iadd 1 :: es) σ [vR 7 0] [] = zev cc_X7_readSign G 9 krV es σ [vR 7 0] [vI ((σ.1 7 0 1) + w18), vR 7 0] := rfl
theorem t_X7_readSign_23 {G : Nat → zH → List zAV → List zAV → Option zH} (es : List zEnt) (σ : zH)    : zev cc_X7_readSign G 9 krV (zE 23 (.aload_n 0) 1 :: es) σ [vR 7 0] [] = zev cc_X7_readSign G 9 krV es σ [vR 7 0] [vR 7 0] := rfl
theorem t_X7_readSign_27 {G : Nat → zH → List zAV → List zAV → Option zH} (es : List zEnt) (σ : zH) (xs0 : Int32)  (w27 : Int32) : zev cc_X7_readSign G 9 krV (zEk 27 (.bipush 61) 2 w27 :: es) σ [vR 7 0] [vI xs0] = zev cc_X7_readSign G 9 krV es σ [vR 7 0] [vI w27, vI xs0] := rfl
theorem t_X7_readSign_32 {G : Nat → zH → List zAV → List zAV → Option zH} (es : List zEnt) (σ : zH)   (w36 : Int32) : zev cc_X7_readSign G 9 krV (zE 32 (.aload_n 0) 1 :: zEf 33 (.getfield 34) 3 7 4 11 (0, 0, 0) :: zEk 36 (.bipush 60) 2 w36 :: es) σ [vR 7 0] [] = zev cc_X7_readSign G 9 krV es σ [vR 7 0] [vI w36, vI (σ.1 7 0 4)] := rfl
theorem t_X7_readSign_41 {G : Nat → zH → List zAV → List zAV → Option zH} (es : List zEnt) (σ : zH)   (w42 : Int32) : zev cc_X7_readSign G 9 krV (zE 41 (.aload_n 0) 1 :: zEk 42 (.sipush 256) 3 w42 :: es) σ [vR 7 0] [] = zev cc_X7_readSign G 9 krV es σ [vR 7 0] [vI w42, vR 7 0] := rfl
theorem t_X7_readSign_48 {G : Nat → zH → List zAV → List zAV → Option zH} (es : List zEnt) (σ : zH)   (w53 : Int32) : zev cc_X7_readSign G 9 krV (zE 48 (.aload_n 0) 1 :: zE 49 .dup 1 :: zEf 50 (.getfield 15) 3 7 1 6 (0, 0, 0) :: zEk 53 (.iconst 1) 1 w53 :: zE 54 .iadd 1 :: es) σ [vR 7 0] [] = zev cc_X7_readSign G 9 krV es σ [vR 7 0] [vI ((σ.1 7 0 1) + w53), vR 7 0] := rfl
theorem t_X7_readSign_61 {G : Nat → zH → List zAV → List zAV → Option zH} (es : List zEnt) (σ : zH)    : zev cc_X7_readSign G 9 krV (zE 61 (.aload_n 0) 1 :: es) σ [vR 7 0] [] = zev cc_X7_readSign G 9 krV es σ [vR 7 0] [vR 7 0] := rfl
theorem t_X7_readSign_65 {G : Nat → zH → List zAV → List zAV → Option zH} (es : List zEnt) (σ : zH) (xs0 : Int32)  (w65 : Int32) : zev cc_X7_readSign G 9 krV (zEk 65 (.bipush 61) 2 w65 :: es) σ [vR 7 0] [vI xs0] = zev cc_X7_readSign G 9 krV es σ [vR 7 0] [vI w65, vI xs0] := rfl
theorem t_X7_readSign_70 {G : Nat → zH → List zAV → List zAV → Option zH} (es : List zEnt) (σ : zH)   (w74 : Int32) : zev cc_X7_readSign G 9 krV (zE 70 (.aload_n 0) 1 :: zEf 71 (.getfield 34) 3 7 4 11 (0, 0, 0) :: zEk 74 (.bipush 62) 2 w74 :: es) σ [vR 7 0] [] = zev cc_X7_readSign G 9 krV es σ [vR 7 0] [vI w74, vI (σ.1 7 0 4)] := rfl
theorem t_X7_readSign_79 {G : Nat → zH → List zAV → List zAV → Option zH} (es : List zEnt) (σ : zH)   (w80 : Int32) : zev cc_X7_readSign G 9 krV (zE 79 (.aload_n 0) 1 :: zEk 80 (.sipush 257) 3 w80 :: es) σ [vR 7 0] [] = zev cc_X7_readSign G 9 krV es σ [vR 7 0] [vI w80, vR 7 0] := rfl
theorem t_X7_readSign_86 {G : Nat → zH → List zAV → List zAV → Option zH} (es : List zEnt) (σ : zH)   (w91 : Int32) : zev cc_X7_readSign G 9 krV (zE 86 (.aload_n 0) 1 :: zE 87 .dup 1 :: zEf 88 (.getfield 15) 3 7 1 6 (0, 0, 0) :: zEk 91 (.iconst 1) 1 w91 :: zE 92 .iadd 1 :: es) σ [vR 7 0] [] = zev cc_X7_readSign G 9 krV es σ [vR 7 0] [vI ((σ.1 7 0 1) + w91), vR 7 0] := rfl
noncomputable def j_X7_readSign_61  (σ : zH)  : Option zH :=
  (d_X7_peek σ).bind fun p1 =>
  if p1.2 = (61 : Int32) then
    if (p1.1.1 7 0 4) = (62 : Int32) then
      zlet (uI p1.1 7 0 4 (257 : Int32)) fun σ2 =>
      zlet (uI σ2 7 0 1 ((σ2.1 7 0 1) + (1 : Int32))) fun σ3 =>
      some σ3
    else
      some p1.1
  else
    some p1.1
theorem e_X7_readSign_61  (σ : zH)   : j_X7_readSign_61 σ = zin cc_X7_readSign (fun t => none) 9 krV b_X7_readSign 61 σ [vR 7 0] [] := by
  unfold j_X7_readSign_61
  refine Eq.symm ((zin_b (es := q_X7_readSign_61) rfl).trans ?_)
  refine (t_X7_readSign_61 _ _).trans ?_
  refine (x_callV rfl rfl rfl rfl).trans ((cl_X7_readSign_X7_peek _ _ _).trans ((gr_X7_peek _ _).trans (pbd fun _ => ?_)))
  refine (t_X7_readSign_65 _ _ _ _).trans ?_
  refine x_icmp.trans (pif_ne ?_ ?_)
  · refine (zrun_b (es := q_X7_readSign_96) rfl rfl).trans ?_
    exact x_vret
  · refine (t_X7_readSign_70 _ _ _).trans ?_
    refine x_icmp.trans (pif_ne ?_ ?_)
    · refine (zrun_b (es := q_X7_readSign_96) rfl rfl).trans ?_
      exact x_vret
    · refine (t_X7_readSign_79 _ _ _).trans ?_
      refine x_pf0.trans (plt fun _ => ?_)
      refine (t_X7_readSign_86 _ _ _).trans ?_
      refine x_pf0.trans (plt fun _ => ?_)
      exact x_vret
theorem s_X7_readSign_61 {X : zX} (hX : zHX X)   : ∀ σ L st r, gl_X7_readSign_61 j_X7_readSign_61 σ L st = some r → zGW X 67 krV 61 σ L st r := by
  intro σ L st r h
  unfold gl_X7_readSign_61 at h
  split at h
  · exact zin_ok (hy_X7_readSign hX) bk_X7_readSign (fun t f hf => by
    cases hf) ((e_X7_readSign_61 _).symm.trans h)
  · cases h
noncomputable def d_X7_readSign (σ : zH)  : Option zH :=
  zlet (uI σ 7 0 3 (3 : Int32)) fun σ1 =>
  (d_X7_peek σ1).bind fun p2 =>
  zlet (uI p2.1 7 0 4 p2.2) fun σ3 =>
  zlet (uI σ3 7 0 1 ((σ3.1 7 0 1) + (1 : Int32))) fun σ4 =>
  (d_X7_peek σ4).bind fun p5 =>
  if p5.2 = (61 : Int32) then
    if (p5.1.1 7 0 4) = (60 : Int32) then
      zlet (uI p5.1 7 0 4 (256 : Int32)) fun σ6 =>
      zlet (uI σ6 7 0 1 ((σ6.1 7 0 1) + (1 : Int32))) fun σ7 =>
      some σ7
    else
      j_X7_readSign_61 p5.1
  else
    j_X7_readSign_61 p5.1
theorem e_X7_readSign (σ : zH)  : d_X7_readSign σ = zin cc_X7_readSign (fun t => if t = 61 then some (gl_X7_readSign_61 j_X7_readSign_61) else none) 9 krV b_X7_readSign 0 σ [vR 7 0] [] := by
  unfold d_X7_readSign
  refine Eq.symm ((zin_b (es := q_X7_readSign_0) rfl).trans ?_)
  refine (t_X7_readSign_0 _ _ _).trans ?_
  refine x_pf0.trans (plt fun _ => ?_)
  refine (t_X7_readSign_5 _ _).trans ?_
  refine (x_callV rfl rfl rfl rfl).trans ((cl_X7_readSign_X7_peek _ _ _).trans ((gr_X7_peek _ _).trans (pbd fun _ => ?_)))
  refine x_pf0.trans (plt fun _ => ?_)
  refine (t_X7_readSign_13 _ _ _).trans ?_
  refine x_pf0.trans (plt fun _ => ?_)
  refine (t_X7_readSign_23 _ _).trans ?_
  refine (x_callV rfl rfl rfl rfl).trans ((cl_X7_readSign_X7_peek _ _ _).trans ((gr_X7_peek _ _).trans (pbd fun _ => ?_)))
  refine (t_X7_readSign_27 _ _ _ _).trans ?_
  refine x_icmp.trans (pif_ne ?_ ?_)
  · exact (zrun_c rfl).trans (glr_X7_readSign_61 _ _)
  · refine (t_X7_readSign_32 _ _ _).trans ?_
    refine x_icmp.trans (pif_ne ?_ ?_)
    · exact (zrun_c rfl).trans (glr_X7_readSign_61 _ _)
    · refine (t_X7_readSign_41 _ _ _).trans ?_
      refine x_pf0.trans (plt fun _ => ?_)
      refine (t_X7_readSign_48 _ _ _).trans ?_
      refine x_pf0.trans (plt fun _ => ?_)
      refine x_goto.trans ?_
      refine (zrun_b (es := q_X7_readSign_96) rfl rfl).trans ?_
      exact x_vret
noncomputable def g_X7_readSign {ρ : Type} (σ : zH) (av : List zAV) (q : zH → zAV → Option ρ) : Option ρ := match av with
  | [.inr (.inr (.inl (7, 0)))] => (d_X7_readSign σ).bind fun σ => q σ vU
  | _ => none
theorem gr_X7_readSign {ρ : Type} (σ : zH)  (q : zH → zAV → Option ρ) : g_X7_readSign σ [vR 7 0] q = (d_X7_readSign σ).bind fun σ => q σ vU := rfl
theorem c_X7_readSign {ρ : Type} {X : zX} (hX : zHX X) {σ : zH} {av : List zAV} {q : zH → zAV → Option ρ} {r : ρ} (h : g_X7_readSign σ av q = some r) (hv : ∀ a ∈ av, zval X a) : zcon X 67 σ av q r := by
  unfold g_X7_readSign at h
  split at h
  · exact zcon_V (n := 67) (ml := 1) (rc := 9) (st := 0) (kd := 7) (np := 0) (by decide +kernel) rfl ⟨_, _, rfl, rfl⟩ (Nat.le_of_ble_eq_true rfl) hv h (fun y h1 => (zin_ok (hy_X7_readSign hX) bk_X7_readSign (fun t f hf => by
      by_cases e61 : t = 61
      · rw [if_pos e61] at hf; subst e61; cases hf; exact (s_X7_readSign_61 hX)
      rw [if_neg e61] at hf
      cases hf) ((e_X7_readSign _).symm.trans h1)))
  · cases h
/-! SleepWaves$Scanner.next()V -/
def q_X7_next_0 : List zEnt := zEk 0 (.iconst 0) 1 0 :: zE 1 (.istore_n 1) 1 :: [zE 2 .nop 0]
def q_X7_next_31 : List zEnt := zEa 31 (.goto (-29)) 3 2 :: []
def q_X7_next_28 : List zEnt := zEk 28 (.iinc 1 1) 3 1 :: q_X7_next_31
def q_X7_next_25 : List zEnt := zEf 25 (.putfield 15) 3 7 1 6 (0, 0, 0) :: q_X7_next_28
def q_X7_next_18 : List zEnt := zE 18 (.aload_n 0) 1 :: zE 19 .dup 1 :: zEf 20 (.getfield 15) 3 7 1 6 (0, 0, 0) :: zEk 23 (.iconst 1) 1 1 :: zE 24 .iadd 1 :: q_X7_next_25
def q_X7_next_15 : List zEnt := zEa 15 (.if_icmp .ne 19) 3 34 :: q_X7_next_18
def q_X7_next_13 : List zEnt := zEk 13 (.bipush 32) 2 32 :: q_X7_next_15
def q_X7_next_10 : List zEnt := zEc 10 (.invokevirtual 27) 3 64 1 5 0 :: q_X7_next_13
def q_X7_next_9 : List zEnt := zE 9 (.aload_n 0) 1 :: q_X7_next_10
def q_X7_next_6 : List zEnt := zEa 6 (.if_icmp .ge 28) 3 34 :: q_X7_next_9
def q_X7_next_2 : List zEnt := zE 2 (.iload_n 1) 1 :: zEk 3 (.sipush 400) 3 400 :: q_X7_next_6
def q_X7_next_62 : List zEnt := zEa 62 (.goto 45) 3 107 :: []
def q_X7_next_59 : List zEnt := zEf 59 (.putfield 34) 3 7 4 11 (0, 0, 0) :: q_X7_next_62
def q_X7_next_57 : List zEnt := zE 57 (.aload_n 0) 1 :: zEk 58 (.iconst (-1)) 1 (-1) :: q_X7_next_59
def q_X7_next_54 : List zEnt := zEf 54 (.putfield 31) 3 7 3 9 (0, 0, 0) :: q_X7_next_57
def q_X7_next_52 : List zEnt := zE 52 (.aload_n 0) 1 :: zEk 53 (.iconst 0) 1 0 :: q_X7_next_54
def q_X7_next_49 : List zEnt := zEa 49 (.if_icmp .ne 16) 3 65 :: q_X7_next_52
def q_X7_next_46 : List zEnt := zE 46 (.istore_n 1) 1 :: zE 47 (.iload_n 1) 1 :: zEk 48 (.iconst (-1)) 1 (-1) :: q_X7_next_49
def q_X7_next_43 : List zEnt := zEc 43 (.invokevirtual 27) 3 64 1 5 0 :: q_X7_next_46
def q_X7_next_42 : List zEnt := zE 42 (.aload_n 0) 1 :: q_X7_next_43
def q_X7_next_39 : List zEnt := zEf 39 (.putfield 22) 3 7 2 7 (0, 0, 0) :: q_X7_next_42
def q_X7_next_34 : List zEnt := zE 34 (.aload_n 0) 1 :: zE 35 (.aload_n 0) 1 :: zEf 36 (.getfield 15) 3 7 1 6 (0, 0, 0) :: q_X7_next_39
def q_X7_next_81 : List zEnt := zEa 81 (.goto 26) 3 107 :: []
def q_X7_next_78 : List zEnt := zEc 78 (.invokevirtual 37) 3 65 1 6 1 :: q_X7_next_81
def q_X7_next_77 : List zEnt := zE 77 (.aload_n 0) 1 :: q_X7_next_78
def q_X7_next_74 : List zEnt := zEa 74 (.if_icmp .gt 10) 3 84 :: q_X7_next_77
def q_X7_next_71 : List zEnt := zE 71 (.iload_n 1) 1 :: zEk 72 (.bipush 57) 2 57 :: q_X7_next_74
def q_X7_next_68 : List zEnt := zEa 68 (.if_icmp .lt 16) 3 84 :: q_X7_next_71
def q_X7_next_65 : List zEnt := zE 65 (.iload_n 1) 1 :: zEk 66 (.bipush 48) 2 48 :: q_X7_next_68
def q_X7_next_100 : List zEnt := zEa 100 (.goto 7) 3 107 :: []
def q_X7_next_97 : List zEnt := zEc 97 (.invokevirtual 40) 3 66 1 7 1 :: q_X7_next_100
def q_X7_next_96 : List zEnt := zE 96 (.aload_n 0) 1 :: q_X7_next_97
def q_X7_next_93 : List zEnt := zEa 93 (.if_icmp .gt 10) 3 103 :: q_X7_next_96
def q_X7_next_90 : List zEnt := zE 90 (.iload_n 1) 1 :: zEk 91 (.bipush 122) 2 122 :: q_X7_next_93
def q_X7_next_87 : List zEnt := zEa 87 (.if_icmp .lt 16) 3 103 :: q_X7_next_90
def q_X7_next_84 : List zEnt := zE 84 (.iload_n 1) 1 :: zEk 85 (.bipush 97) 2 97 :: q_X7_next_87
def q_X7_next_107 : List zEnt := zE 107 .return_ 1 :: []
def q_X7_next_104 : List zEnt := zEc 104 (.invokevirtual 43) 3 67 1 8 1 :: q_X7_next_107
def q_X7_next_103 : List zEnt := zE 103 (.aload_n 0) 1 :: q_X7_next_104
def b_X7_next : List (Nat × List zEnt) := [(0, q_X7_next_0), (2, q_X7_next_2), (34, q_X7_next_34), (65, q_X7_next_65), (84, q_X7_next_84), (103, q_X7_next_103), (107, q_X7_next_107)]
theorem bk_X7_next : zchB 63 b_X7_next = true := by decide +kernel
noncomputable def cc_X7_next {ρ : Type} : Nat → zH → List zAV → (zH → zAV → Option ρ) → Option ρ := fun n σ av q => if n = 64 then g_X7_peek σ av q else if n = 65 then g_X7_readNumber σ av q else if n = 66 then g_X7_readWord σ av q else if n = 67 then g_X7_readSign σ av q else none
theorem cs_X7_next {ρ : Type} {X : zX} (hX : zHX X) : zCS X (cc_X7_next (ρ := ρ)) := by
  intro n σ av q r h hv
  unfold cc_X7_next at h
  by_cases e_X7_peek : n = 64
  · rw [if_pos e_X7_peek] at h
    subst e_X7_peek
    exact c_X7_peek hX h hv
  rw [if_neg e_X7_peek] at h
  by_cases e_X7_readNumber : n = 65
  · rw [if_pos e_X7_readNumber] at h
    subst e_X7_readNumber
    exact c_X7_readNumber hX h hv
  rw [if_neg e_X7_readNumber] at h
  by_cases e_X7_readWord : n = 66
  · rw [if_pos e_X7_readWord] at h
    subst e_X7_readWord
    exact c_X7_readWord hX h hv
  rw [if_neg e_X7_readWord] at h
  by_cases e_X7_readSign : n = 67
  · rw [if_pos e_X7_readSign] at h
    subst e_X7_readSign
    exact c_X7_readSign hX h hv
  rw [if_neg e_X7_readSign] at h
  cases h
theorem cl_X7_next_X7_peek {ρ : Type} (σ : zH) (av : List zAV) (q : zH → zAV → Option ρ) : cc_X7_next 64 σ av q = g_X7_peek σ av q := rfl
theorem cl_X7_next_X7_readNumber {ρ : Type} (σ : zH) (av : List zAV) (q : zH → zAV → Option ρ) : cc_X7_next 65 σ av q = g_X7_readNumber σ av q := rfl
theorem cl_X7_next_X7_readWord {ρ : Type} (σ : zH) (av : List zAV) (q : zH → zAV → Option ρ) : cc_X7_next 66 σ av q = g_X7_readWord σ av q := rfl
theorem cl_X7_next_X7_readSign {ρ : Type} (σ : zH) (av : List zAV) (q : zH → zAV → Option ρ) : cc_X7_next 67 σ av q = g_X7_readSign σ av q := rfl
theorem hy_X7_next {ρ : Type} {X : zX} (hX : zHX X) : zHY X 63 (cc_X7_next (ρ := ρ)) := zHX.hY hX (cs_X7_next hX) (zmok_all 63 (by decide))
def gl_X7_next_2 {ρ : Type} (f : zH → Int32 → Option ρ) (σ : zH) (L st : List zAV) : Option ρ := match L, st with
  | [.inr (.inr (.inl (7, 0))), .inl x1], [] => f σ x1
  | _, _ => none
def gl_X7_next_34 {ρ : Type} (f : zH → Option ρ) (σ : zH) (L st : List zAV) : Option ρ := match L, st with
  | [.inr (.inr (.inl (7, 0))), _], [] => f σ
  | _, _ => none
def gl_X7_next_84 {ρ : Type} (f : zH → Int32 → Option ρ) (σ : zH) (L st : List zAV) : Option ρ := match L, st with
  | [.inr (.inr (.inl (7, 0))), .inl x1], [] => f σ x1
  | _, _ => none
def gl_X7_next_103 {ρ : Type} (f : zH → Option ρ) (σ : zH) (L st : List zAV) : Option ρ := match L, st with
  | [.inr (.inr (.inl (7, 0))), _], [] => f σ
  | _, _ => none
theorem glr_X7_next_2 {ρ : Type} (f : zH → Int32 → Option ρ) (σ : zH) (x1 : Int32)  : gl_X7_next_2 f σ [vR 7 0, vI x1] [] = f σ x1 := rfl
theorem glr_X7_next_34 {ρ : Type} (f : zH → Option ρ) (σ : zH)  (y1 : zAV) : gl_X7_next_34 f σ [vR 7 0, y1] [] = f σ := rfl
theorem glr_X7_next_84 {ρ : Type} (f : zH → Int32 → Option ρ) (σ : zH) (x1 : Int32)  : gl_X7_next_84 f σ [vR 7 0, vI x1] [] = f σ x1 := rfl
theorem glr_X7_next_103 {ρ : Type} (f : zH → Option ρ) (σ : zH)  (y1 : zAV) : gl_X7_next_103 f σ [vR 7 0, y1] [] = f σ := rfl
theorem t_X7_next_0 {G : Nat → zH → List zAV → List zAV → Option zH} (es : List zEnt) (σ : zH)  (y1 : zAV) (w0 : Int32) : zev cc_X7_next G 9 krV (zEk 0 (.iconst 0) 1 w0 :: zE 1 (.istore_n 1) 1 :: es) σ [vR 7 0, y1] [] = zev cc_X7_next G 9 krV es σ [vR 7 0, vI w0] [] := rfl
theorem t_X7_next_2 {G : Nat → zH → List zAV → List zAV → Option zH} (es : List zEnt) (σ : zH) (x1 : Int32)  (w3 : Int32) : zev cc_X7_next G 9 krV (zE 2 (.iload_n 1) 1 :: zEk 3 (.sipush 400) 3 w3 :: es) σ [vR 7 0, vI x1] [] = zev cc_X7_next G 9 krV es σ [vR 7 0, vI x1] [vI w3, vI x1] := rfl
theorem t_X7_next_9 {G : Nat → zH → List zAV → List zAV → Option zH} (es : List zEnt) (σ : zH) (x1 : Int32)   : zev cc_X7_next G 9 krV (zE 9 (.aload_n 0) 1 :: es) σ [vR 7 0, vI x1] [] = zev cc_X7_next G 9 krV es σ [vR 7 0, vI x1] [vR 7 0] := rfl
theorem t_X7_next_13 {G : Nat → zH → List zAV → List zAV → Option zH} (es : List zEnt) (σ : zH) (x1 : Int32) (xs0 : Int32)  (w13 : Int32) : zev cc_X7_next G 9 krV (zEk 13 (.bipush 32) 2 w13 :: es) σ [vR 7 0, vI x1] [vI xs0] = zev cc_X7_next G 9 krV es σ [vR 7 0, vI x1] [vI w13, vI xs0] := rfl
theorem t_X7_next_18 {G : Nat → zH → List zAV → List zAV → Option zH} (es : List zEnt) (σ : zH) (x1 : Int32)  (w23 : Int32) : zev cc_X7_next G 9 krV (zE 18 (.aload_n 0) 1 :: zE 19 .dup 1 :: zEf 20 (.getfield 15) 3 7 1 6 (0, 0, 0) :: zEk 23 (.iconst 1) 1 w23 :: zE 24 .iadd 1 :: es) σ [vR 7 0, vI x1] [] = zev cc_X7_next G 9 krV es σ [vR 7 0, vI x1] [vI ((σ.1 7 0 1) + w23), vR 7 0] := rfl
theorem t_X7_next_28 {G : Nat → zH → List zAV → List zAV → Option zH} (es : List zEnt) (σ : zH) (x1 : Int32)  (w28 : Int32) : zev cc_X7_next G 9 krV (zEk 28 (.iinc 1 1) 3 w28 :: es) σ [vR 7 0, vI x1] [] = zev cc_X7_next G 9 krV es σ [vR 7 0, vI (x1 + w28)] [] := rfl
theorem t_X7_next_34 {G : Nat → zH → List zAV → List zAV → Option zH} (es : List zEnt) (σ : zH)  (y1 : zAV)  : zev cc_X7_next G 9 krV (zE 34 (.aload_n 0) 1 :: zE 35 (.aload_n 0) 1 :: zEf 36 (.getfield 15) 3 7 1 6 (0, 0, 0) :: es) σ [vR 7 0, y1] [] = zev cc_X7_next G 9 krV es σ [vR 7 0, y1] [vI (σ.1 7 0 1), vR 7 0] := rfl
theorem t_X7_next_42 {G : Nat → zH → List zAV → List zAV → Option zH} (es : List zEnt) (σ : zH)  (y1 : zAV)  : zev cc_X7_next G 9 krV (zE 42 (.aload_n 0) 1 :: es) σ [vR 7 0, y1] [] = zev cc_X7_next G 9 krV es σ [vR 7 0, y1] [vR 7 0] := rfl
theorem t_X7_next_46 {G : Nat → zH → List zAV → List zAV → Option zH} (es : List zEnt) (σ : zH) (xs0 : Int32) (y1 : zAV) (w48 : Int32) : zev cc_X7_next G 9 krV (zE 46 (.istore_n 1) 1 :: zE 47 (.iload_n 1) 1 :: zEk 48 (.iconst (-1)) 1 w48 :: es) σ [vR 7 0, y1] [vI xs0] = zev cc_X7_next G 9 krV es σ [vR 7 0, vI xs0] [vI w48, vI xs0] := rfl
theorem t_X7_next_52 {G : Nat → zH → List zAV → List zAV → Option zH} (es : List zEnt) (σ : zH)  (y1 : zAV) (w53 : Int32) : zev cc_X7_next G 9 krV (zE 52 (.aload_n 0) 1 :: zEk 53 (.iconst 0) 1 w53 :: es) σ [vR 7 0, y1] [] = zev cc_X7_next G 9 krV es σ [vR 7 0, y1] [vI w53, vR 7 0] := rfl
theorem t_X7_next_57 {G : Nat → zH → List zAV → List zAV → Option zH} (es : List zEnt) (σ : zH)  (y1 : zAV) (w58 : Int32) : zev cc_X7_next G 9 krV (zE 57 (.aload_n 0) 1 :: zEk 58 (.iconst (-1)) 1 w58 :: es) σ [vR 7 0, y1] [] = zev cc_X7_next G 9 krV es σ [vR 7 0, y1] [vI w58, vR 7 0] := rfl
theorem t_X7_next_65 {G : Nat → zH → List zAV → List zAV → Option zH} (es : List zEnt) (σ : zH) (x1 : Int32)  (w66 : Int32) : zev cc_X7_next G 9 krV (zE 65 (.iload_n 1) 1 :: zEk 66 (.bipush 48) 2 w66 :: es) σ [vR 7 0, vI x1] [] = zev cc_X7_next G 9 krV es σ [vR 7 0, vI x1] [vI w66, vI x1] := rfl
theorem t_X7_next_71 {G : Nat → zH → List zAV → List zAV → Option zH} (es : List zEnt) (σ : zH) (x1 : Int32)  (w72 : Int32) : zev cc_X7_next G 9 krV (zE 71 (.iload_n 1) 1 :: zEk 72 (.bipush 57) 2 w72 :: es) σ [vR 7 0, vI x1] [] = zev cc_X7_next G 9 krV es σ [vR 7 0, vI x1] [vI w72, vI x1] := rfl
theorem t_X7_next_77 {G : Nat → zH → List zAV → List zAV → Option zH} (es : List zEnt) (σ : zH)  (y1 : zAV)  : zev cc_X7_next G 9 krV (zE 77 (.aload_n 0) 1 :: es) σ [vR 7 0, y1] [] = zev cc_X7_next G 9 krV es σ [vR 7 0, y1] [vR 7 0] := rfl
theorem t_X7_next_84 {G : Nat → zH → List zAV → List zAV → Option zH} (es : List zEnt) (σ : zH) (x1 : Int32)  (w85 : Int32) : zev cc_X7_next G 9 krV (zE 84 (.iload_n 1) 1 :: zEk 85 (.bipush 97) 2 w85 :: es) σ [vR 7 0, vI x1] [] = zev cc_X7_next G 9 krV es σ [vR 7 0, vI x1] [vI w85, vI x1] := rfl
theorem t_X7_next_90 {G : Nat → zH → List zAV → List zAV → Option zH} (es : List zEnt) (σ : zH) (x1 : Int32)  (w91 : Int32) : zev cc_X7_next G 9 krV (zE 90 (.iload_n 1) 1 :: zEk 91 (.bipush 122) 2 w91 :: es) σ [vR 7 0, vI x1] [] = zev cc_X7_next G 9 krV es σ [vR 7 0, vI x1] [vI w91, vI x1] := rfl
theorem t_X7_next_96 {G : Nat → zH → List zAV → List zAV → Option zH} (es : List zEnt) (σ : zH)  (y1 : zAV)  : zev cc_X7_next G 9 krV (zE 96 (.aload_n 0) 1 :: es) σ [vR 7 0, y1] [] = zev cc_X7_next G 9 krV es σ [vR 7 0, y1] [vR 7 0] := rfl
theorem t_X7_next_103 {G : Nat → zH → List zAV → List zAV → Option zH} (es : List zEnt) (σ : zH)  (y1 : zAV)  : zev cc_X7_next G 9 krV (zE 103 (.aload_n 0) 1 :: es) σ [vR 7 0, y1] [] = zev cc_X7_next G 9 krV es σ [vR 7 0, y1] [vR 7 0] := rfl
noncomputable def k_X7_next_2 (c34 : zH → Option zH) : Nat → zH → Int32 → Option zH
  | 0, _, _ => none
  | n + 1, σ, x1 =>
    if x1 < (400 : Int32) then
      (d_X7_peek σ).bind fun p1 =>
      if p1.2 = (32 : Int32) then
        zlet (uI p1.1 7 0 1 ((p1.1.1 7 0 1) + (1 : Int32))) fun σ2 =>
        (k_X7_next_2 c34 n) σ2 (x1 + (1 : Int32))
      else
        c34 p1.1
    else
      c34 σ
theorem e_X7_next_2 (c34 : zH → Option zH) (n : Nat) (σ : zH) (x1 : Int32)  : k_X7_next_2 c34 (n + 1) σ x1 = zin cc_X7_next (fun t => if t = 2 then some (gl_X7_next_2 (k_X7_next_2 c34 n)) else if t = 34 then some (gl_X7_next_34 c34) else none) 9 krV b_X7_next 2 σ [vR 7 0, vI x1] [] := by
  rw [k_X7_next_2]
  refine Eq.symm ((zin_b (es := q_X7_next_2) rfl).trans ?_)
  refine (t_X7_next_2 _ _ _ _).trans ?_
  refine x_icmp.trans (pif_ge ?_ ?_)
  · exact (zrun_c rfl).trans (glr_X7_next_34 _ _ _)
  · refine (t_X7_next_9 _ _ _).trans ?_
    refine (x_callV rfl rfl rfl rfl).trans ((cl_X7_next_X7_peek _ _ _).trans ((gr_X7_peek _ _).trans (pbd fun _ => ?_)))
    refine (t_X7_next_13 _ _ _ _ _).trans ?_
    refine x_icmp.trans (pif_ne ?_ ?_)
    · exact (zrun_c rfl).trans (glr_X7_next_34 _ _ _)
    · refine (t_X7_next_18 _ _ _ _).trans ?_
      refine x_pf0.trans (plt fun _ => ?_)
      refine (t_X7_next_28 _ _ _ _).trans ?_
      refine x_goto.trans ?_
      exact (zrun_c rfl).trans (glr_X7_next_2 _ _ _)
theorem s_X7_next_2 {X : zX} (hX : zHX X) {c34 : zH → Option zH} (h34 : ∀ σ L st r, gl_X7_next_34 c34 σ L st = some r → zGW X 63 krV 34 σ L st r) : ∀ n σ L st r, gl_X7_next_2 (k_X7_next_2 c34 n) σ L st = some r → zGW X 63 krV 2 σ L st r := by
  intro n
  induction n with
  | zero =>
    intro σ L st r h
    unfold gl_X7_next_2 at h
    split at h <;> cases h
  | succ n ih =>
    intro σ L st r h
    unfold gl_X7_next_2 at h
    split at h
    · exact zin_ok (hy_X7_next hX) bk_X7_next (fun t f hf => by
      by_cases e2 : t = 2
      · rw [if_pos e2] at hf; subst e2; cases hf; exact ih
      rw [if_neg e2] at hf
      by_cases e34 : t = 34
      · rw [if_pos e34] at hf; subst e34; cases hf; exact h34
      rw [if_neg e34] at hf
      cases hf) ((e_X7_next_2 _ _ _ _).symm.trans h)
    · cases h
noncomputable def j_X7_next_103  (σ : zH)  : Option zH :=
  (d_X7_readSign σ).bind fun σ1 =>
  some σ1
theorem e_X7_next_103  (σ : zH)  (y1 : zAV) : j_X7_next_103 σ = zin cc_X7_next (fun t => none) 9 krV b_X7_next 103 σ [vR 7 0, y1] [] := by
  unfold j_X7_next_103
  refine Eq.symm ((zin_b (es := q_X7_next_103) rfl).trans ?_)
  refine (t_X7_next_103 _ _ _).trans ?_
  refine (x_callV rfl rfl rfl rfl).trans ((cl_X7_next_X7_readSign _ _ _).trans ((gr_X7_readSign _ _).trans (pbd fun _ => ?_)))
  exact x_vret
theorem s_X7_next_103 {X : zX} (hX : zHX X)   : ∀ σ L st r, gl_X7_next_103 j_X7_next_103 σ L st = some r → zGW X 63 krV 103 σ L st r := by
  intro σ L st r h
  unfold gl_X7_next_103 at h
  split at h
  · exact zin_ok (hy_X7_next hX) bk_X7_next (fun t f hf => by
    cases hf) ((e_X7_next_103 _ _).symm.trans h)
  · cases h
noncomputable def j_X7_next_84  (σ : zH) (x1 : Int32) : Option zH :=
  if x1 < (97 : Int32) then
    j_X7_next_103 σ
  else
    if (122 : Int32) < x1 then
      j_X7_next_103 σ
    else
      (d_X7_readWord σ).bind fun σ1 =>
      some σ1
theorem e_X7_next_84  (σ : zH) (x1 : Int32)  : j_X7_next_84 σ x1 = zin cc_X7_next (fun t => if t = 103 then some (gl_X7_next_103 j_X7_next_103) else none) 9 krV b_X7_next 84 σ [vR 7 0, vI x1] [] := by
  unfold j_X7_next_84
  refine Eq.symm ((zin_b (es := q_X7_next_84) rfl).trans ?_)
  refine (t_X7_next_84 _ _ _ _).trans ?_
  refine x_icmp.trans (pif_lt ?_ ?_)
  · exact (zrun_c rfl).trans (glr_X7_next_103 _ _ _)
  · refine (t_X7_next_90 _ _ _ _).trans ?_
    refine x_icmp.trans (pif_gt ?_ ?_)
    · exact (zrun_c rfl).trans (glr_X7_next_103 _ _ _)
    · refine (t_X7_next_96 _ _ _).trans ?_
      refine (x_callV rfl rfl rfl rfl).trans ((cl_X7_next_X7_readWord _ _ _).trans ((gr_X7_readWord _ _).trans (pbd fun _ => ?_)))
      refine x_goto.trans ?_
      refine (zrun_b (es := q_X7_next_107) rfl rfl).trans ?_
      exact x_vret
theorem s_X7_next_84 {X : zX} (hX : zHX X)   : ∀ σ L st r, gl_X7_next_84 j_X7_next_84 σ L st = some r → zGW X 63 krV 84 σ L st r := by
  intro σ L st r h
  unfold gl_X7_next_84 at h
  split at h
  · exact zin_ok (hy_X7_next hX) bk_X7_next (fun t f hf => by
    by_cases e103 : t = 103
    · rw [if_pos e103] at hf; subst e103; cases hf; exact (s_X7_next_103 hX)
    rw [if_neg e103] at hf
    cases hf) ((e_X7_next_84 _ _).symm.trans h)
  · cases h
noncomputable def j_X7_next_34  (σ : zH)  : Option zH :=
  zlet (uI σ 7 0 2 (σ.1 7 0 1)) fun σ1 =>
  (d_X7_peek σ1).bind fun p2 =>
  if p2.2 = (-1 : Int32) then
    zlet (uI p2.1 7 0 3 (0 : Int32)) fun σ4 =>
    zlet (uI σ4 7 0 4 (-1 : Int32)) fun σ5 =>
    some σ5
  else
    if p2.2 < (48 : Int32) then
      j_X7_next_84 p2.1 p2.2
    else
      if (57 : Int32) < p2.2 then
        j_X7_next_84 p2.1 p2.2
      else
        (d_X7_readNumber p2.1).bind fun σ3 =>
        some σ3
theorem e_X7_next_34  (σ : zH)  (y1 : zAV) : j_X7_next_34 σ = zin cc_X7_next (fun t => if t = 84 then some (gl_X7_next_84 j_X7_next_84) else none) 9 krV b_X7_next 34 σ [vR 7 0, y1] [] := by
  unfold j_X7_next_34
  refine Eq.symm ((zin_b (es := q_X7_next_34) rfl).trans ?_)
  refine (t_X7_next_34 _ _ _).trans ?_
  refine x_pf0.trans (plt fun _ => ?_)
  refine (t_X7_next_42 _ _ _).trans ?_
  refine (x_callV rfl rfl rfl rfl).trans ((cl_X7_next_X7_peek _ _ _).trans ((gr_X7_peek _ _).trans (pbd fun _ => ?_)))
  refine (t_X7_next_46 _ _ _ _ _).trans ?_
  refine x_icmp.trans (pif_ne ?_ ?_)
  · refine (zrun_b (es := q_X7_next_65) rfl rfl).trans ?_
    refine (t_X7_next_65 _ _ _ _).trans ?_
    refine x_icmp.trans (pif_lt ?_ ?_)
    · exact (zrun_c rfl).trans (glr_X7_next_84 _ _ _)
    · refine (t_X7_next_71 _ _ _ _).trans ?_
      refine x_icmp.trans (pif_gt ?_ ?_)
      · exact (zrun_c rfl).trans (glr_X7_next_84 _ _ _)
      · refine (t_X7_next_77 _ _ _).trans ?_
        refine (x_callV rfl rfl rfl rfl).trans ((cl_X7_next_X7_readNumber _ _ _).trans ((gr_X7_readNumber _ _).trans (pbd fun _ => ?_)))
        refine x_goto.trans ?_
        refine (zrun_b (es := q_X7_next_107) rfl rfl).trans ?_
        exact x_vret
  · refine (t_X7_next_52 _ _ _ _).trans ?_
    refine x_pf0.trans (plt fun _ => ?_)
    refine (t_X7_next_57 _ _ _ _).trans ?_
    refine x_pf0.trans (plt fun _ => ?_)
    refine x_goto.trans ?_
    refine (zrun_b (es := q_X7_next_107) rfl rfl).trans ?_
    exact x_vret
theorem s_X7_next_34 {X : zX} (hX : zHX X)   : ∀ σ L st r, gl_X7_next_34 j_X7_next_34 σ L st = some r → zGW X 63 krV 34 σ L st r := by
  intro σ L st r h
  unfold gl_X7_next_34 at h
  split at h
  · exact zin_ok (hy_X7_next hX) bk_X7_next (fun t f hf => by
    by_cases e84 : t = 84
    · rw [if_pos e84] at hf; subst e84; cases hf; exact (s_X7_next_84 hX)
    rw [if_neg e84] at hf
    cases hf) ((e_X7_next_34 _ _).symm.trans h)
  · cases h
noncomputable def d_X7_next (σ : zH)  : Option zH :=
  (k_X7_next_2 j_X7_next_34 zN) σ (0 : Int32)
theorem e_X7_next (σ : zH)  : d_X7_next σ = zin cc_X7_next (fun t => if t = 2 then some (gl_X7_next_2 (k_X7_next_2 j_X7_next_34 zN)) else none) 9 krV b_X7_next 0 σ [vR 7 0, vU] [] := by
  unfold d_X7_next
  refine Eq.symm ((zin_b (es := q_X7_next_0) rfl).trans ?_)
  refine (t_X7_next_0 _ _ _ _).trans ?_
  refine x_cut.trans ?_
  exact (zrun_c rfl).trans (glr_X7_next_2 _ _ _)
noncomputable def g_X7_next {ρ : Type} (σ : zH) (av : List zAV) (q : zH → zAV → Option ρ) : Option ρ := match av with
  | [.inr (.inr (.inl (7, 0)))] => (d_X7_next σ).bind fun σ => q σ vU
  | _ => none
theorem gr_X7_next {ρ : Type} (σ : zH)  (q : zH → zAV → Option ρ) : g_X7_next σ [vR 7 0] q = (d_X7_next σ).bind fun σ => q σ vU := rfl
theorem c_X7_next {ρ : Type} {X : zX} (hX : zHX X) {σ : zH} {av : List zAV} {q : zH → zAV → Option ρ} {r : ρ} (h : g_X7_next σ av q = some r) (hv : ∀ a ∈ av, zval X a) : zcon X 63 σ av q r := by
  unfold g_X7_next at h
  split at h
  · exact zcon_V (n := 63) (ml := 2) (rc := 9) (st := 0) (kd := 7) (np := 0) (by decide +kernel) rfl ⟨_, _, rfl, rfl⟩ (Nat.le_of_ble_eq_true rfl) hv h (fun y h1 => (zin_ok (hy_X7_next hX) bk_X7_next (fun t f hf => by
      by_cases e2 : t = 2
      · rw [if_pos e2] at hf; subst e2; cases hf; exact ((fun σ L st r h => s_X7_next_2 hX (s_X7_next_34 hX) zN σ L st r h))
      rw [if_neg e2] at hf
      cases hf) ((e_X7_next _).symm.trans h1)))
  · cases h
/-! SleepWaves$Scanner.isWord(Ljava/lang/String;)Z -/
def q_X7_isWord_20 : List zEnt := zE 20 .ireturn 1 :: []
def q_X7_isWord_19 : List zEnt := zEk 19 (.iconst 0) 1 0 :: q_X7_isWord_20
def q_X7_isWord_16 : List zEnt := zEa 16 (.if_icmp .eq 5) 3 21 :: q_X7_isWord_19
def q_X7_isWord_8 : List zEnt := zE 8 (.aload_n 0) 1 :: zEf 9 (.getfield 34) 3 7 4 11 (0, 0, 0) :: zE 12 (.aload_n 1) 1 :: zEc 13 (.invokevirtual 53) 3 9000 0 571 0 :: q_X7_isWord_16
def q_X7_isWord_5 : List zEnt := zEa 5 (.if_icmp .ne 14) 3 19 :: q_X7_isWord_8
def q_X7_isWord_0 : List zEnt := zE 0 (.aload_n 0) 1 :: zEf 1 (.getfield 31) 3 7 3 9 (0, 0, 0) :: zEk 4 (.iconst 2) 1 2 :: q_X7_isWord_5
def q_X7_isWord_21 : List zEnt := zEk 21 (.iconst 0) 1 0 :: zE 22 (.istore_n 2) 1 :: [zE 23 .nop 0]
def q_X7_isWord_66 : List zEnt := zE 66 .ireturn 1 :: []
def q_X7_isWord_65 : List zEnt := zEk 65 (.iconst 0) 1 0 :: q_X7_isWord_66
def q_X7_isWord_62 : List zEnt := zEa 62 (.if_icmp .eq 5) 3 67 :: q_X7_isWord_65
def q_X7_isWord_59 : List zEnt := zEc 59 (.invokevirtual 58) 3 9001 0 581 0 :: q_X7_isWord_62
def q_X7_isWord_57 : List zEnt := zE 57 (.aload_n 1) 1 :: zE 58 (.iload_n 2) 1 :: q_X7_isWord_59
def q_X7_isWord_56 : List zEnt := zE 56 .iaload 1 :: q_X7_isWord_57
def q_X7_isWord_43 : List zEnt := zE 43 (.aload_n 0) 1 :: zEf 44 (.getfield 9) 3 7 0 5 (2, 9, 0) :: zEf 47 (.getfield 49) 3 9 0 1 (2, 37, 0) :: zE 50 (.aload_n 0) 1 :: zEf 51 (.getfield 22) 3 7 2 7 (0, 0, 0) :: zE 54 (.iload_n 2) 1 :: zE 55 .iadd 1 :: q_X7_isWord_56
def q_X7_isWord_40 : List zEnt := zEa 40 (.if_icmp .ge 25) 3 65 :: q_X7_isWord_43
def q_X7_isWord_31 : List zEnt := zE 31 (.aload_n 0) 1 :: zEf 32 (.getfield 22) 3 7 2 7 (0, 0, 0) :: zE 35 (.iload_n 2) 1 :: zE 36 .iadd 1 :: zEk 37 (.sipush 400) 3 400 :: q_X7_isWord_40
def q_X7_isWord_28 : List zEnt := zEa 28 (.if_icmp .ge 45) 3 73 :: q_X7_isWord_31
def q_X7_isWord_23 : List zEnt := zE 23 (.iload_n 2) 1 :: zE 24 (.aload_n 1) 1 :: zEc 25 (.invokevirtual 53) 3 9000 0 571 0 :: q_X7_isWord_28
def q_X7_isWord_70 : List zEnt := zEa 70 (.goto (-47)) 3 23 :: []
def q_X7_isWord_67 : List zEnt := zEk 67 (.iinc 2 1) 3 1 :: q_X7_isWord_70
def q_X7_isWord_74 : List zEnt := zE 74 .ireturn 1 :: []
def q_X7_isWord_73 : List zEnt := zEk 73 (.iconst 1) 1 1 :: q_X7_isWord_74
def b_X7_isWord : List (Nat × List zEnt) := [(0, q_X7_isWord_0), (19, q_X7_isWord_19), (21, q_X7_isWord_21), (23, q_X7_isWord_23), (65, q_X7_isWord_65), (67, q_X7_isWord_67), (73, q_X7_isWord_73)]
theorem bk_X7_isWord : zchB 69 b_X7_isWord = true := by decide +kernel
theorem hy_X7_isWord {ρ : Type} {X : zX} (hX : zHX X) : zHY X 69 (zc0 (ρ := ρ)) := zHX.hY hX (zc0_ok X) (zmok_all 69 (by decide))
def gl_X7_isWord_23 {ρ : Type} (f : zH → Nat → Int32 → Option ρ) (σ : zH) (L st : List zAV) : Option ρ := match L, st with
  | [.inr (.inr (.inl (7, 0))), .inr (.inr (.inl (200, i1))), .inl x2], [] => f σ i1 x2
  | _, _ => none
theorem glr_X7_isWord_23 {ρ : Type} (f : zH → Nat → Int32 → Option ρ) (σ : zH) (i1 : Nat) (x2 : Int32)  : gl_X7_isWord_23 f σ [vR 7 0, vR 200 i1, vI x2] [] = f σ i1 x2 := rfl
theorem t_X7_isWord_0 {G : Nat → zH → List zAV → List zAV → Option (zH × Int32)} (es : List zEnt) (σ : zH) (i1 : Nat) (y2 : zAV) (w4 : Int32) : zev zc0 G 1 krI (zE 0 (.aload_n 0) 1 :: zEf 1 (.getfield 31) 3 7 3 9 (0, 0, 0) :: zEk 4 (.iconst 2) 1 w4 :: es) σ [vR 7 0, vR 200 i1, y2] [] = zev zc0 G 1 krI es σ [vR 7 0, vR 200 i1, y2] [vI w4, vI (σ.1 7 0 3)] := rfl
theorem t_X7_isWord_8 {G : Nat → zH → List zAV → List zAV → Option (zH × Int32)} (es : List zEnt) (σ : zH) (i1 : Nat) (y2 : zAV)  : zev zc0 G 1 krI (zE 8 (.aload_n 0) 1 :: zEf 9 (.getfield 34) 3 7 4 11 (0, 0, 0) :: zE 12 (.aload_n 1) 1 :: zEc 13 (.invokevirtual 53) 3 9000 0 571 0 :: es) σ [vR 7 0, vR 200 i1, y2] [] = zev zc0 G 1 krI es σ [vR 7 0, vR 200 i1, y2] [vI (Int32.ofNat (zsN i1)), vI (σ.1 7 0 4)] := rfl
theorem t_X7_isWord_19 {G : Nat → zH → List zAV → List zAV → Option (zH × Int32)} (es : List zEnt) (σ : zH)  (y0 : zAV) (y1 : zAV) (y2 : zAV) (w19 : Int32) : zev zc0 G 1 krI (zEk 19 (.iconst 0) 1 w19 :: es) σ [y0, y1, y2] [] = zev zc0 G 1 krI es σ [y0, y1, y2] [vI w19] := rfl
theorem t_X7_isWord_21 {G : Nat → zH → List zAV → List zAV → Option (zH × Int32)} (es : List zEnt) (σ : zH) (i1 : Nat) (y2 : zAV) (w21 : Int32) : zev zc0 G 1 krI (zEk 21 (.iconst 0) 1 w21 :: zE 22 (.istore_n 2) 1 :: es) σ [vR 7 0, vR 200 i1, y2] [] = zev zc0 G 1 krI es σ [vR 7 0, vR 200 i1, vI w21] [] := rfl
theorem t_X7_isWord_23 {G : Nat → zH → List zAV → List zAV → Option (zH × Int32)} (es : List zEnt) (σ : zH) (i1 : Nat) (x2 : Int32)   : zev zc0 G 1 krI (zE 23 (.iload_n 2) 1 :: zE 24 (.aload_n 1) 1 :: zEc 25 (.invokevirtual 53) 3 9000 0 571 0 :: es) σ [vR 7 0, vR 200 i1, vI x2] [] = zev zc0 G 1 krI es σ [vR 7 0, vR 200 i1, vI x2] [vI (Int32.ofNat (zsN i1)), vI x2] := rfl
theorem t_X7_isWord_31 {G : Nat → zH → List zAV → List zAV → Option (zH × Int32)} (es : List zEnt) (σ : zH) (i1 : Nat) (x2 : Int32)  (w37 : Int32) : zev zc0 G 1 krI (zE 31 (.aload_n 0) 1 :: zEf 32 (.getfield 22) 3 7 2 7 (0, 0, 0) :: zE 35 (.iload_n 2) 1 :: zE 36 .iadd 1 :: zEk 37 (.sipush 400) 3 w37 :: es) σ [vR 7 0, vR 200 i1, vI x2] [] = zev zc0 G 1 krI es σ [vR 7 0, vR 200 i1, vI x2] [vI w37, vI ((σ.1 7 0 2) + x2)] := rfl
theorem t_X7_isWord_43 {G : Nat → zH → List zAV → List zAV → Option (zH × Int32)} (es : List zEnt) (σ : zH) (i1 : Nat) (x2 : Int32)   : zev zc0 G 1 krI (zE 43 (.aload_n 0) 1 :: zEf 44 (.getfield 9) 3 7 0 5 (2, 9, 0) :: zEf 47 (.getfield 49) 3 9 0 1 (2, 37, 0) :: zE 50 (.aload_n 0) 1 :: zEf 51 (.getfield 22) 3 7 2 7 (0, 0, 0) :: zE 54 (.iload_n 2) 1 :: zE 55 .iadd 1 :: es) σ [vR 7 0, vR 200 i1, vI x2] [] = zev zc0 G 1 krI es σ [vR 7 0, vR 200 i1, vI x2] [vI ((σ.1 7 0 2) + x2), vR 37 0] := rfl
theorem t_X7_isWord_57 {G : Nat → zH → List zAV → List zAV → Option (zH × Int32)} (es : List zEnt) (σ : zH) (i1 : Nat) (x2 : Int32) (xs0 : Int32)   : zev zc0 G 1 krI (zE 57 (.aload_n 1) 1 :: zE 58 (.iload_n 2) 1 :: es) σ [vR 7 0, vR 200 i1, vI x2] [vI xs0] = zev zc0 G 1 krI es σ [vR 7 0, vR 200 i1, vI x2] [vI x2, vR 200 i1, vI xs0] := rfl
theorem t_X7_isWord_65 {G : Nat → zH → List zAV → List zAV → Option (zH × Int32)} (es : List zEnt) (σ : zH)  (y0 : zAV) (y1 : zAV) (y2 : zAV) (w65 : Int32) : zev zc0 G 1 krI (zEk 65 (.iconst 0) 1 w65 :: es) σ [y0, y1, y2] [] = zev zc0 G 1 krI es σ [y0, y1, y2] [vI w65] := rfl
theorem t_X7_isWord_67 {G : Nat → zH → List zAV → List zAV → Option (zH × Int32)} (es : List zEnt) (σ : zH) (i1 : Nat) (x2 : Int32)  (w67 : Int32) : zev zc0 G 1 krI (zEk 67 (.iinc 2 1) 3 w67 :: es) σ [vR 7 0, vR 200 i1, vI x2] [] = zev zc0 G 1 krI es σ [vR 7 0, vR 200 i1, vI (x2 + w67)] [] := rfl
theorem t_X7_isWord_73 {G : Nat → zH → List zAV → List zAV → Option (zH × Int32)} (es : List zEnt) (σ : zH)  (y0 : zAV) (y1 : zAV) (y2 : zAV) (w73 : Int32) : zev zc0 G 1 krI (zEk 73 (.iconst 1) 1 w73 :: es) σ [y0, y1, y2] [] = zev zc0 G 1 krI es σ [y0, y1, y2] [vI w73] := rfl
noncomputable def k_X7_isWord_23  : Nat → zH → Nat → Int32 → Option (zH × Int32)
  | 0, _, _, _ => none
  | n + 1, σ, i1, x2 =>
    if x2 < (Int32.ofNat (zsN i1)) then
      if ((σ.1 7 0 2) + x2) < (400 : Int32) then
        ix ((σ.1 7 0 2) + x2) 400 fun j1 =>
        ix x2 (zsN i1) fun j2 =>
        if (σ.1 37 0 j1) = (zsC i1 j2) then
          (k_X7_isWord_23 n) σ i1 (x2 + (1 : Int32))
        else
          some (σ, (0 : Int32))
      else
        some (σ, (0 : Int32))
    else
      some (σ, (1 : Int32))
theorem e_X7_isWord_23  (n : Nat) (σ : zH) (i1 : Nat) (x2 : Int32)  : k_X7_isWord_23 (n + 1) σ i1 x2 = zin zc0 (fun t => if t = 23 then some (gl_X7_isWord_23 (k_X7_isWord_23 n)) else none) 1 krI b_X7_isWord 23 σ [vR 7 0, vR 200 i1, vI x2] [] := by
  rw [k_X7_isWord_23]
  refine Eq.symm ((zin_b (es := q_X7_isWord_23) rfl).trans ?_)
  refine (t_X7_isWord_23 _ _ _ _).trans ?_
  refine x_icmp.trans (pif_ge ?_ ?_)
  · refine (zrun_b (es := q_X7_isWord_73) rfl rfl).trans ?_
    refine (t_X7_isWord_73 _ _ _ _ _ _).trans ?_
    exact x_zret.trans (tv_l (by decide +kernel))
  · refine (t_X7_isWord_31 _ _ _ _ _).trans ?_
    refine x_icmp.trans (pif_ge ?_ ?_)
    · refine (zrun_b (es := q_X7_isWord_65) rfl rfl).trans ?_
      refine (t_X7_isWord_65 _ _ _ _ _ _).trans ?_
      exact x_zret.trans (tv_l (by decide +kernel))
    · refine (t_X7_isWord_43 _ _ _ _).trans ?_
      refine (x_iald (N := 400) rfl rfl).trans (pix fun _ => ?_)
      refine (t_X7_isWord_57 _ _ _ _ _).trans ?_
      refine (x_char rfl).trans (pix fun _ => ?_)
      refine x_icmp.trans (pif_eq ?_ ?_)
      · refine (zrun_b (es := q_X7_isWord_67) rfl rfl).trans ?_
        refine (t_X7_isWord_67 _ _ _ _ _).trans ?_
        refine x_goto.trans ?_
        exact (zrun_c rfl).trans (glr_X7_isWord_23 _ _ _ _)
      · refine (t_X7_isWord_65 _ _ _ _ _ _).trans ?_
        exact x_zret.trans (tv_l (by decide +kernel))
theorem s_X7_isWord_23 {X : zX} (hX : zHX X)   : ∀ n σ L st r, gl_X7_isWord_23 (k_X7_isWord_23 n) σ L st = some r → zGW X 69 krI 23 σ L st r := by
  intro n
  induction n with
  | zero =>
    intro σ L st r h
    unfold gl_X7_isWord_23 at h
    split at h <;> cases h
  | succ n ih =>
    intro σ L st r h
    unfold gl_X7_isWord_23 at h
    split at h
    · exact zin_ok (hy_X7_isWord hX) bk_X7_isWord (fun t f hf => by
      by_cases e23 : t = 23
      · rw [if_pos e23] at hf; subst e23; cases hf; exact ih
      rw [if_neg e23] at hf
      cases hf) ((e_X7_isWord_23 _ _ _ _).symm.trans h)
    · cases h
noncomputable def d_X7_isWord (σ : zH) (ia1 : Nat) : Option (zH × Int32) :=
  if (σ.1 7 0 3) = (2 : Int32) then
    if (σ.1 7 0 4) = (Int32.ofNat (zsN ia1)) then
      (k_X7_isWord_23 zN) σ ia1 (0 : Int32)
    else
      some (σ, (0 : Int32))
  else
    some (σ, (0 : Int32))
theorem e_X7_isWord (σ : zH) (ia1 : Nat) : d_X7_isWord σ ia1 = zin zc0 (fun t => if t = 23 then some (gl_X7_isWord_23 (k_X7_isWord_23 zN)) else none) 1 krI b_X7_isWord 0 σ [vR 7 0, vR 200 ia1, vU] [] := by
  unfold d_X7_isWord
  refine Eq.symm ((zin_b (es := q_X7_isWord_0) rfl).trans ?_)
  refine (t_X7_isWord_0 _ _ _ _ _).trans ?_
  refine x_icmp.trans (pif_ne ?_ ?_)
  · refine (zrun_b (es := q_X7_isWord_19) rfl rfl).trans ?_
    refine (t_X7_isWord_19 _ _ _ _ _ _).trans ?_
    exact x_zret.trans (tv_l (by decide +kernel))
  · refine (t_X7_isWord_8 _ _ _ _).trans ?_
    refine x_icmp.trans (pif_eq ?_ ?_)
    · refine (zrun_b (es := q_X7_isWord_21) rfl rfl).trans ?_
      refine (t_X7_isWord_21 _ _ _ _ _).trans ?_
      refine x_cut.trans ?_
      exact (zrun_c rfl).trans (glr_X7_isWord_23 _ _ _ _)
    · refine (t_X7_isWord_19 _ _ _ _ _ _).trans ?_
      exact x_zret.trans (tv_l (by decide +kernel))
noncomputable def g_X7_isWord {ρ : Type} (σ : zH) (av : List zAV) (q : zH → zAV → Option ρ) : Option ρ := match av with
  | [.inr (.inr (.inl (7, 0))), .inr (.inr (.inl (200, ia1)))] => (d_X7_isWord σ ia1).bind fun p => q p.1 (vI p.2)
  | _ => none
theorem gr_X7_isWord {ρ : Type} (σ : zH) (ia1 : Nat) (q : zH → zAV → Option ρ) : g_X7_isWord σ [vR 7 0, vR 200 ia1] q = (d_X7_isWord σ ia1).bind fun p => q p.1 (vI p.2) := rfl
theorem c_X7_isWord {ρ : Type} {X : zX} (hX : zHX X) {σ : zH} {av : List zAV} {q : zH → zAV → Option ρ} {r : ρ} (h : g_X7_isWord σ av q = some r) (hv : ∀ a ∈ av, zval X a) : zcon X 69 σ av q r := by
  unfold g_X7_isWord at h
  split at h
  · exact zcon_I (n := 69) (ml := 3) (rc := 1) (st := 0) (kd := 7) (np := 1) (by decide +kernel) (by decide) ⟨_, _, rfl, rfl⟩ (Nat.le_of_ble_eq_true rfl) hv h (fun y h1 => (zin_ok (hy_X7_isWord hX) bk_X7_isWord (fun t f hf => by
      by_cases e23 : t = 23
      · rw [if_pos e23] at hf; subst e23; cases hf; exact ((fun σ L st r h => s_X7_isWord_23 hX  zN σ L st r h))
      rw [if_neg e23] at hf
      cases hf) ((e_X7_isWord _ _).symm.trans h1)))
  · cases h
/-! SleepWaves$Scanner.fail(I)V -/
def q_X7_fail_22 : List zEnt := zE 22 .return_ 1 :: []
def q_X7_fail_19 : List zEnt := zEf 19 (.putfield 19) 3 7 5 14 (0, 0, 0) :: q_X7_fail_22
def q_X7_fail_7 : List zEnt := zE 7 (.aload_n 0) 1 :: zEk 8 (.iconst 1) 1 1 :: zEk 9 (.bipush 8) 2 8 :: zE 11 (.aload_n 0) 1 :: zEf 12 (.getfield 22) 3 7 2 7 (0, 0, 0) :: zE 15 .imul 1 :: zE 16 .iadd 1 :: zE 17 (.iload_n 1) 1 :: zE 18 .iadd 1 :: q_X7_fail_19
def q_X7_fail_4 : List zEnt := zEa 4 (.ifCond .ne 18) 3 22 :: q_X7_fail_7
def q_X7_fail_0 : List zEnt := zE 0 (.aload_n 0) 1 :: zEf 1 (.getfield 19) 3 7 5 14 (0, 0, 0) :: q_X7_fail_4
def b_X7_fail : List (Nat × List zEnt) := [(0, q_X7_fail_0), (22, q_X7_fail_22)]
theorem bk_X7_fail : zchB 61 b_X7_fail = true := by decide +kernel
theorem hy_X7_fail {ρ : Type} {X : zX} (hX : zHX X) : zHY X 61 (zc0 (ρ := ρ)) := zHX.hY hX (zc0_ok X) (zmok_all 61 (by decide))
theorem t_X7_fail_0 {G : Nat → zH → List zAV → List zAV → Option zH} (es : List zEnt) (σ : zH) (x1 : Int32)   : zev zc0 G 9 krV (zE 0 (.aload_n 0) 1 :: zEf 1 (.getfield 19) 3 7 5 14 (0, 0, 0) :: es) σ [vR 7 0, vI x1] [] = zev zc0 G 9 krV es σ [vR 7 0, vI x1] [vI (σ.1 7 0 5)] := rfl
theorem t_X7_fail_7 {G : Nat → zH → List zAV → List zAV → Option zH} (es : List zEnt) (σ : zH) (x1 : Int32)  (w8 : Int32) (w9 : Int32) : zev zc0 G 9 krV (zE 7 (.aload_n 0) 1 :: zEk 8 (.iconst 1) 1 w8 :: zEk 9 (.bipush 8) 2 w9 :: zE 11 (.aload_n 0) 1 :: zEf 12 (.getfield 22) 3 7 2 7 (0, 0, 0) :: zE 15 .imul 1 :: zE 16 .iadd 1 :: zE 17 (.iload_n 1) 1 :: zE 18 .iadd 1 :: es) σ [vR 7 0, vI x1] [] = zev zc0 G 9 krV es σ [vR 7 0, vI x1] [vI ((w8 + (w9 * (σ.1 7 0 2))) + x1), vR 7 0] := rfl
noncomputable def d_X7_fail (σ : zH) (xa1 : Int32) : Option zH :=
  if (σ.1 7 0 5) = 0 then
    zlet (uI σ 7 0 5 (((1 : Int32) + ((8 : Int32) * (σ.1 7 0 2))) + xa1)) fun σ1 =>
    some σ1
  else
    some σ
theorem e_X7_fail (σ : zH) (xa1 : Int32) : d_X7_fail σ xa1 = zin zc0 (fun t => none) 9 krV b_X7_fail 0 σ [vR 7 0, vI xa1] [] := by
  unfold d_X7_fail
  refine Eq.symm ((zin_b (es := q_X7_fail_0) rfl).trans ?_)
  refine (t_X7_fail_0 _ _ _).trans ?_
  refine x_if.trans (pif_ne ?_ ?_)
  · refine (zrun_b (es := q_X7_fail_22) rfl rfl).trans ?_
    exact x_vret
  · refine (t_X7_fail_7 _ _ _ _ _).trans ?_
    refine x_pf0.trans (plt fun _ => ?_)
    exact x_vret
noncomputable def g_X7_fail {ρ : Type} (σ : zH) (av : List zAV) (q : zH → zAV → Option ρ) : Option ρ := match av with
  | [.inr (.inr (.inl (7, 0))), .inl xa1] => (d_X7_fail σ xa1).bind fun σ => q σ vU
  | _ => none
theorem gr_X7_fail {ρ : Type} (σ : zH) (xa1 : Int32) (q : zH → zAV → Option ρ) : g_X7_fail σ [vR 7 0, vI xa1] q = (d_X7_fail σ xa1).bind fun σ => q σ vU := rfl
theorem c_X7_fail {ρ : Type} {X : zX} (hX : zHX X) {σ : zH} {av : List zAV} {q : zH → zAV → Option ρ} {r : ρ} (h : g_X7_fail σ av q = some r) (hv : ∀ a ∈ av, zval X a) : zcon X 61 σ av q r := by
  unfold g_X7_fail at h
  split at h
  · exact zcon_V (n := 61) (ml := 2) (rc := 9) (st := 0) (kd := 7) (np := 1) (by decide +kernel) rfl ⟨_, _, rfl, rfl⟩ (Nat.le_of_ble_eq_true rfl) hv h (fun y h1 => (zin_ok (hy_X7_fail hX) bk_X7_fail (fun t f hf => by
      cases hf) ((e_X7_fail _ _).symm.trans h1)))
  · cases h
/-! SleepWaves$CampReader.isOneTooMany(Z)Z -/
def q_X1_isOneTooMany_8 : List zEnt := zEa 8 (.ifCond .eq 7) 3 15 :: [zE 11 .nop 0]
def q_X1_isOneTooMany_4 : List zEnt := zE 4 (.aload_n 0) 1 :: zEf 5 (.getfield 33) 3 1 2 19 (0, 1, 0) :: q_X1_isOneTooMany_8
def q_X1_isOneTooMany_1 : List zEnt := zEa 1 (.ifCond .ne 10) 3 11 :: q_X1_isOneTooMany_4
def q_X1_isOneTooMany_0 : List zEnt := zE 0 (.iload_n 1) 1 :: q_X1_isOneTooMany_1
def q_X1_isOneTooMany_12 : List zEnt := zEa 12 (.goto 4) 3 16 :: []
def q_X1_isOneTooMany_11 : List zEnt := zEk 11 (.iconst 1) 1 1 :: q_X1_isOneTooMany_12
def q_X1_isOneTooMany_15 : List zEnt := zEk 15 (.iconst 0) 1 0 :: [zE 16 .nop 0]
def q_X1_isOneTooMany_30 : List zEnt := zE 30 .ireturn 1 :: []
def q_X1_isOneTooMany_29 : List zEnt := zE 29 (.iload_n 2) 1 :: q_X1_isOneTooMany_30
def q_X1_isOneTooMany_26 : List zEnt := zEc 26 (.invokevirtual 63) 3 61 2 12 1 :: q_X1_isOneTooMany_29
def q_X1_isOneTooMany_21 : List zEnt := zE 21 (.aload_n 0) 1 :: zEf 22 (.getfield 9) 3 1 0 17 (2, 7, 0) :: zEk 25 (.iconst 4) 1 4 :: q_X1_isOneTooMany_26
def q_X1_isOneTooMany_18 : List zEnt := zEa 18 (.ifCond .eq 11) 3 29 :: q_X1_isOneTooMany_21
def q_X1_isOneTooMany_16 : List zEnt := zE 16 (.istore_n 2) 1 :: zE 17 (.iload_n 2) 1 :: q_X1_isOneTooMany_18
def b_X1_isOneTooMany : List (Nat × List zEnt) := [(0, q_X1_isOneTooMany_0), (11, q_X1_isOneTooMany_11), (15, q_X1_isOneTooMany_15), (16, q_X1_isOneTooMany_16), (29, q_X1_isOneTooMany_29)]
theorem bk_X1_isOneTooMany : zchB 9 b_X1_isOneTooMany = true := by decide +kernel
noncomputable def cc_X1_isOneTooMany {ρ : Type} : Nat → zH → List zAV → (zH → zAV → Option ρ) → Option ρ := fun n σ av q => if n = 61 then g_X7_fail σ av q else none
theorem cs_X1_isOneTooMany {ρ : Type} {X : zX} (hX : zHX X) : zCS X (cc_X1_isOneTooMany (ρ := ρ)) := by
  intro n σ av q r h hv
  unfold cc_X1_isOneTooMany at h
  by_cases e_X7_fail : n = 61
  · rw [if_pos e_X7_fail] at h
    subst e_X7_fail
    exact c_X7_fail hX h hv
  rw [if_neg e_X7_fail] at h
  cases h
theorem cl_X1_isOneTooMany_X7_fail {ρ : Type} (σ : zH) (av : List zAV) (q : zH → zAV → Option ρ) : cc_X1_isOneTooMany 61 σ av q = g_X7_fail σ av q := rfl
theorem hy_X1_isOneTooMany {ρ : Type} {X : zX} (hX : zHX X) : zHY X 9 (cc_X1_isOneTooMany (ρ := ρ)) := zHX.hY hX (cs_X1_isOneTooMany hX) (zmok_all 9 (by decide))
def gl_X1_isOneTooMany_11 {ρ : Type} (f : zH → Option ρ) (σ : zH) (L st : List zAV) : Option ρ := match L, st with
  | [.inr (.inr (.inl (1, 0))), _, _], [] => f σ
  | _, _ => none
def gl_X1_isOneTooMany_16 {ρ : Type} (f : zH → Int32 → Option ρ) (σ : zH) (L st : List zAV) : Option ρ := match L, st with
  | [.inr (.inr (.inl (1, 0))), _, _], [.inl xs0] => f σ xs0
  | _, _ => none
theorem glr_X1_isOneTooMany_11 {ρ : Type} (f : zH → Option ρ) (σ : zH)  (y1 : zAV) (y2 : zAV) : gl_X1_isOneTooMany_11 f σ [vR 1 0, y1, y2] [] = f σ := rfl
theorem glr_X1_isOneTooMany_16 {ρ : Type} (f : zH → Int32 → Option ρ) (σ : zH) (xs0 : Int32) (y1 : zAV) (y2 : zAV) : gl_X1_isOneTooMany_16 f σ [vR 1 0, y1, y2] [vI xs0] = f σ xs0 := rfl
theorem t_X1_isOneTooMany_0 {G : Nat → zH → List zAV → List zAV → Option (zH × Int32)} (es : List zEnt) (σ : zH) (x1 : Int32) (y2 : zAV)  : zev cc_X1_isOneTooMany G 1 krI (zE 0 (.iload_n 1) 1 :: es) σ [vR 1 0, vI x1, y2] [] = zev cc_X1_isOneTooMany G 1 krI es σ [vR 1 0, vI x1, y2] [vI x1] := rfl
theorem t_X1_isOneTooMany_4 {G : Nat → zH → List zAV → List zAV → Option (zH × Int32)} (es : List zEnt) (σ : zH)  (y1 : zAV) (y2 : zAV)  : zev cc_X1_isOneTooMany G 1 krI (zE 4 (.aload_n 0) 1 :: zEf 5 (.getfield 33) 3 1 2 19 (0, 1, 0) :: es) σ [vR 1 0, y1, y2] [] = zev cc_X1_isOneTooMany G 1 krI es σ [vR 1 0, y1, y2] [vI (σ.1 1 0 2)] := rfl
theorem t_X1_isOneTooMany_11 {G : Nat → zH → List zAV → List zAV → Option (zH × Int32)} (es : List zEnt) (σ : zH)  (y1 : zAV) (y2 : zAV) (w11 : Int32) : zev cc_X1_isOneTooMany G 1 krI (zEk 11 (.iconst 1) 1 w11 :: es) σ [vR 1 0, y1, y2] [] = zev cc_X1_isOneTooMany G 1 krI es σ [vR 1 0, y1, y2] [vI w11] := rfl
theorem t_X1_isOneTooMany_15 {G : Nat → zH → List zAV → List zAV → Option (zH × Int32)} (es : List zEnt) (σ : zH)  (y1 : zAV) (y2 : zAV) (w15 : Int32) : zev cc_X1_isOneTooMany G 1 krI (zEk 15 (.iconst 0) 1 w15 :: es) σ [vR 1 0, y1, y2] [] = zev cc_X1_isOneTooMany G 1 krI es σ [vR 1 0, y1, y2] [vI w15] := rfl
theorem t_X1_isOneTooMany_16 {G : Nat → zH → List zAV → List zAV → Option (zH × Int32)} (es : List zEnt) (σ : zH) (xs0 : Int32) (y1 : zAV) (y2 : zAV)  : zev cc_X1_isOneTooMany G 1 krI (zE 16 (.istore_n 2) 1 :: zE 17 (.iload_n 2) 1 :: es) σ [vR 1 0, y1, y2] [vI xs0] = zev cc_X1_isOneTooMany G 1 krI es σ [vR 1 0, (zkp y1), vI xs0] [vI xs0] := rfl
theorem t_X1_isOneTooMany_21 {G : Nat → zH → List zAV → List zAV → Option (zH × Int32)} (es : List zEnt) (σ : zH) (x2 : Int32) (y1 : zAV) (w25 : Int32) : zev cc_X1_isOneTooMany G 1 krI (zE 21 (.aload_n 0) 1 :: zEf 22 (.getfield 9) 3 1 0 17 (2, 7, 0) :: zEk 25 (.iconst 4) 1 w25 :: es) σ [vR 1 0, y1, vI x2] [] = zev cc_X1_isOneTooMany G 1 krI es σ [vR 1 0, y1, vI x2] [vI w25, vR 7 0] := rfl
theorem t_X1_isOneTooMany_29 {G : Nat → zH → List zAV → List zAV → Option (zH × Int32)} (es : List zEnt) (σ : zH) (x2 : Int32) (y0 : zAV) (y1 : zAV)  : zev cc_X1_isOneTooMany G 1 krI (zE 29 (.iload_n 2) 1 :: es) σ [y0, y1, vI x2] [] = zev cc_X1_isOneTooMany G 1 krI es σ [y0, y1, vI x2] [vI x2] := rfl
noncomputable def j_X1_isOneTooMany_16  (σ : zH) (xs0 : Int32) : Option (zH × Int32) :=
  if xs0 = 0 then
    tv xs0 <| some (σ, xs0)
  else
    (d_X7_fail σ (4 : Int32)).bind fun σ1 =>
    tv xs0 <| some (σ1, xs0)
theorem e_X1_isOneTooMany_16  (σ : zH) (xs0 : Int32) (y1 : zAV) (y2 : zAV) : j_X1_isOneTooMany_16 σ xs0 = zin cc_X1_isOneTooMany (fun t => none) 1 krI b_X1_isOneTooMany 16 σ [vR 1 0, y1, y2] [vI xs0] := by
  unfold j_X1_isOneTooMany_16
  refine Eq.symm ((zin_b (es := q_X1_isOneTooMany_16) rfl).trans ?_)
  refine (t_X1_isOneTooMany_16 _ _ _ _ _).trans ?_
  refine x_if.trans (pif_eq ?_ ?_)
  · refine (zrun_b (es := q_X1_isOneTooMany_29) rfl rfl).trans ?_
    refine (t_X1_isOneTooMany_29 _ _ _ _ _).trans ?_
    exact x_zret
  · refine (t_X1_isOneTooMany_21 _ _ _ _ _).trans ?_
    refine (x_callV rfl rfl rfl rfl).trans ((cl_X1_isOneTooMany_X7_fail _ _ _).trans ((gr_X7_fail _ _ _).trans (pbd fun _ => ?_)))
    refine (t_X1_isOneTooMany_29 _ _ _ _ _).trans ?_
    exact x_zret
theorem s_X1_isOneTooMany_16 {X : zX} (hX : zHX X)   : ∀ σ L st r, gl_X1_isOneTooMany_16 j_X1_isOneTooMany_16 σ L st = some r → zGW X 9 krI 16 σ L st r := by
  intro σ L st r h
  unfold gl_X1_isOneTooMany_16 at h
  split at h
  · exact zin_ok (hy_X1_isOneTooMany hX) bk_X1_isOneTooMany (fun t f hf => by
    cases hf) ((e_X1_isOneTooMany_16 _ _ _ _).symm.trans h)
  · cases h
noncomputable def j_X1_isOneTooMany_11  (σ : zH)  : Option (zH × Int32) :=
  j_X1_isOneTooMany_16 σ (1 : Int32)
theorem e_X1_isOneTooMany_11  (σ : zH)  (y1 : zAV) (y2 : zAV) : j_X1_isOneTooMany_11 σ = zin cc_X1_isOneTooMany (fun t => if t = 16 then some (gl_X1_isOneTooMany_16 j_X1_isOneTooMany_16) else none) 1 krI b_X1_isOneTooMany 11 σ [vR 1 0, y1, y2] [] := by
  unfold j_X1_isOneTooMany_11
  refine Eq.symm ((zin_b (es := q_X1_isOneTooMany_11) rfl).trans ?_)
  refine (t_X1_isOneTooMany_11 _ _ _ _ _).trans ?_
  refine x_goto.trans ?_
  exact (zrun_c rfl).trans (glr_X1_isOneTooMany_16 _ _ _ _ _)
theorem s_X1_isOneTooMany_11 {X : zX} (hX : zHX X)   : ∀ σ L st r, gl_X1_isOneTooMany_11 j_X1_isOneTooMany_11 σ L st = some r → zGW X 9 krI 11 σ L st r := by
  intro σ L st r h
  unfold gl_X1_isOneTooMany_11 at h
  split at h
  · exact zin_ok (hy_X1_isOneTooMany hX) bk_X1_isOneTooMany (fun t f hf => by
    by_cases e16 : t = 16
    · rw [if_pos e16] at hf; subst e16; cases hf; exact (s_X1_isOneTooMany_16 hX)
    rw [if_neg e16] at hf
    cases hf) ((e_X1_isOneTooMany_11 _ _ _).symm.trans h)
  · cases h
noncomputable def d_X1_isOneTooMany (σ : zH) (xa1 : Int32) : Option (zH × Int32) :=
  if xa1 = 0 then
    if (σ.1 1 0 2) = 0 then
      j_X1_isOneTooMany_16 σ (0 : Int32)
    else
      j_X1_isOneTooMany_11 σ
  else
    j_X1_isOneTooMany_11 σ
theorem e_X1_isOneTooMany (σ : zH) (xa1 : Int32) : d_X1_isOneTooMany σ xa1 = zin cc_X1_isOneTooMany (fun t => if t = 11 then some (gl_X1_isOneTooMany_11 j_X1_isOneTooMany_11) else if t = 16 then some (gl_X1_isOneTooMany_16 j_X1_isOneTooMany_16) else none) 1 krI b_X1_isOneTooMany 0 σ [vR 1 0, vI xa1, vU] [] := by
  unfold d_X1_isOneTooMany
  refine Eq.symm ((zin_b (es := q_X1_isOneTooMany_0) rfl).trans ?_)
  refine (t_X1_isOneTooMany_0 _ _ _ _).trans ?_
  refine x_if.trans (pif_ne ?_ ?_)
  · exact (zrun_c rfl).trans (glr_X1_isOneTooMany_11 _ _ _ _)
  · refine (t_X1_isOneTooMany_4 _ _ _ _).trans ?_
    refine x_if.trans (pif_eq ?_ ?_)
    · refine (zrun_b (es := q_X1_isOneTooMany_15) rfl rfl).trans ?_
      refine (t_X1_isOneTooMany_15 _ _ _ _ _).trans ?_
      refine x_cut.trans ?_
      exact (zrun_c rfl).trans (glr_X1_isOneTooMany_16 _ _ _ _ _)
    · refine x_cut.trans ?_
      exact (zrun_c rfl).trans (glr_X1_isOneTooMany_11 _ _ _ _)
noncomputable def g_X1_isOneTooMany {ρ : Type} (σ : zH) (av : List zAV) (q : zH → zAV → Option ρ) : Option ρ := match av with
  | [.inr (.inr (.inl (1, 0))), .inl xa1] => (d_X1_isOneTooMany σ xa1).bind fun p => q p.1 (vI p.2)
  | _ => none
theorem gr_X1_isOneTooMany {ρ : Type} (σ : zH) (xa1 : Int32) (q : zH → zAV → Option ρ) : g_X1_isOneTooMany σ [vR 1 0, vI xa1] q = (d_X1_isOneTooMany σ xa1).bind fun p => q p.1 (vI p.2) := rfl
theorem c_X1_isOneTooMany {ρ : Type} {X : zX} (hX : zHX X) {σ : zH} {av : List zAV} {q : zH → zAV → Option ρ} {r : ρ} (h : g_X1_isOneTooMany σ av q = some r) (hv : ∀ a ∈ av, zval X a) : zcon X 9 σ av q r := by
  unfold g_X1_isOneTooMany at h
  split at h
  · exact zcon_I (n := 9) (ml := 3) (rc := 1) (st := 0) (kd := 1) (np := 1) (by decide +kernel) (by decide) ⟨_, _, rfl, rfl⟩ (Nat.le_of_ble_eq_true rfl) hv h (fun y h1 => (zin_ok (hy_X1_isOneTooMany hX) bk_X1_isOneTooMany (fun t f hf => by
      by_cases e11 : t = 11
      · rw [if_pos e11] at hf; subst e11; cases hf; exact (s_X1_isOneTooMany_11 hX)
      rw [if_neg e11] at hf
      by_cases e16 : t = 16
      · rw [if_pos e16] at hf; subst e16; cases hf; exact (s_X1_isOneTooMany_16 hX)
      rw [if_neg e16] at hf
      cases hf) ((e_X1_isOneTooMany _ _).symm.trans h1)))
  · cases h
/-! SleepWaves$Scanner.failed()Z -/
def q_X7_failed_8 : List zEnt := zEa 8 (.goto 4) 3 12 :: []
def q_X7_failed_7 : List zEnt := zEk 7 (.iconst 1) 1 1 :: q_X7_failed_8
def q_X7_failed_4 : List zEnt := zEa 4 (.ifCond .eq 7) 3 11 :: q_X7_failed_7
def q_X7_failed_0 : List zEnt := zE 0 (.aload_n 0) 1 :: zEf 1 (.getfield 19) 3 7 5 14 (0, 0, 0) :: q_X7_failed_4
def q_X7_failed_12 : List zEnt := zE 12 .ireturn 1 :: []
def q_X7_failed_11 : List zEnt := zEk 11 (.iconst 0) 1 0 :: q_X7_failed_12
def b_X7_failed : List (Nat × List zEnt) := [(0, q_X7_failed_0), (11, q_X7_failed_11), (12, q_X7_failed_12)]
theorem bk_X7_failed : zchB 62 b_X7_failed = true := by decide +kernel
theorem hy_X7_failed {ρ : Type} {X : zX} (hX : zHX X) : zHY X 62 (zc0 (ρ := ρ)) := zHX.hY hX (zc0_ok X) (zmok_all 62 (by decide))
theorem t_X7_failed_0 {G : Nat → zH → List zAV → List zAV → Option (zH × Int32)} (es : List zEnt) (σ : zH)    : zev zc0 G 1 krI (zE 0 (.aload_n 0) 1 :: zEf 1 (.getfield 19) 3 7 5 14 (0, 0, 0) :: es) σ [vR 7 0] [] = zev zc0 G 1 krI es σ [vR 7 0] [vI (σ.1 7 0 5)] := rfl
theorem t_X7_failed_7 {G : Nat → zH → List zAV → List zAV → Option (zH × Int32)} (es : List zEnt) (σ : zH)  (y0 : zAV) (w7 : Int32) : zev zc0 G 1 krI (zEk 7 (.iconst 1) 1 w7 :: es) σ [y0] [] = zev zc0 G 1 krI es σ [y0] [vI w7] := rfl
theorem t_X7_failed_11 {G : Nat → zH → List zAV → List zAV → Option (zH × Int32)} (es : List zEnt) (σ : zH)  (y0 : zAV) (w11 : Int32) : zev zc0 G 1 krI (zEk 11 (.iconst 0) 1 w11 :: es) σ [y0] [] = zev zc0 G 1 krI es σ [y0] [vI w11] := rfl
noncomputable def d_X7_failed (σ : zH)  : Option (zH × Int32) :=
  if (σ.1 7 0 5) = 0 then
    some (σ, (0 : Int32))
  else
    some (σ, (1 : Int32))
theorem e_X7_failed (σ : zH)  : d_X7_failed σ = zin zc0 (fun t => none) 1 krI b_X7_failed 0 σ [vR 7 0] [] := by
  unfold d_X7_failed
  refine Eq.symm ((zin_b (es := q_X7_failed_0) rfl).trans ?_)
  refine (t_X7_failed_0 _ _).trans ?_
  refine x_if.trans (pif_eq ?_ ?_)
  · refine (zrun_b (es := q_X7_failed_11) rfl rfl).trans ?_
    refine (t_X7_failed_11 _ _ _ _).trans ?_
    exact x_zret.trans (tv_l (by decide +kernel))
  · refine (t_X7_failed_7 _ _ _ _).trans ?_
    refine x_goto.trans ?_
    refine (zrun_b (es := q_X7_failed_12) rfl rfl).trans ?_
    exact x_zret.trans (tv_l (by decide +kernel))
noncomputable def g_X7_failed {ρ : Type} (σ : zH) (av : List zAV) (q : zH → zAV → Option ρ) : Option ρ := match av with
  | [.inr (.inr (.inl (7, 0)))] => (d_X7_failed σ).bind fun p => q p.1 (vI p.2)
  | _ => none
theorem gr_X7_failed {ρ : Type} (σ : zH)  (q : zH → zAV → Option ρ) : g_X7_failed σ [vR 7 0] q = (d_X7_failed σ).bind fun p => q p.1 (vI p.2) := rfl
theorem c_X7_failed {ρ : Type} {X : zX} (hX : zHX X) {σ : zH} {av : List zAV} {q : zH → zAV → Option ρ} {r : ρ} (h : g_X7_failed σ av q = some r) (hv : ∀ a ∈ av, zval X a) : zcon X 62 σ av q r := by
  unfold g_X7_failed at h
  split at h
  · exact zcon_I (n := 62) (ml := 1) (rc := 1) (st := 0) (kd := 7) (np := 0) (by decide +kernel) (by decide) ⟨_, _, rfl, rfl⟩ (Nat.le_of_ble_eq_true rfl) hv h (fun y h1 => (zin_ok (hy_X7_failed hX) bk_X7_failed (fun t f hf => by
      cases hf) ((e_X7_failed _).symm.trans h1)))
  · cases h
/-! SleepWaves$CampReader.number(II)I -/
def q_X1_number_11 : List zEnt := zE 11 .ireturn 1 :: []
def q_X1_number_10 : List zEnt := zE 10 (.iload_n 1) 1 :: q_X1_number_11
def q_X1_number_7 : List zEnt := zEa 7 (.ifCond .eq 5) 3 12 :: q_X1_number_10
def q_X1_number_4 : List zEnt := zEc 4 (.invokevirtual 75) 3 62 1 14 0 :: q_X1_number_7
def q_X1_number_0 : List zEnt := zE 0 (.aload_n 0) 1 :: zEf 1 (.getfield 9) 3 1 0 17 (2, 7, 0) :: q_X1_number_4
def q_X1_number_39 : List zEnt := zE 39 .ireturn 1 :: []
def q_X1_number_38 : List zEnt := zE 38 (.iload_n 1) 1 :: q_X1_number_39
def q_X1_number_35 : List zEnt := zEc 35 (.invokevirtual 63) 3 61 2 12 1 :: q_X1_number_38
def q_X1_number_30 : List zEnt := zE 30 (.aload_n 0) 1 :: zEf 31 (.getfield 9) 3 1 0 17 (2, 7, 0) :: zEk 34 (.iconst 0) 1 0 :: q_X1_number_35
def q_X1_number_27 : List zEnt := zEa 27 (.if_icmp .eq 13) 3 40 :: q_X1_number_30
def q_X1_number_19 : List zEnt := zE 19 (.aload_n 0) 1 :: zEf 20 (.getfield 9) 3 1 0 17 (2, 7, 0) :: zEf 23 (.getfield 82) 3 7 3 8 (0, 0, 0) :: zEk 26 (.iconst 1) 1 1 :: q_X1_number_27
def q_X1_number_16 : List zEnt := zEc 16 (.invokevirtual 36) 3 63 1 4 1 :: q_X1_number_19
def q_X1_number_12 : List zEnt := zE 12 (.aload_n 0) 1 :: zEf 13 (.getfield 9) 3 1 0 17 (2, 7, 0) :: q_X1_number_16
def q_X1_number_59 : List zEnt := zEa 59 (.if_icmp .le 13) 3 72 :: [zE 62 .nop 0]
def q_X1_number_51 : List zEnt := zE 51 (.aload_n 0) 1 :: zEf 52 (.getfield 9) 3 1 0 17 (2, 7, 0) :: zEf 55 (.getfield 132) 3 7 4 13 (0, 0, 0) :: zE 58 (.iload_n 2) 1 :: q_X1_number_59
def q_X1_number_48 : List zEnt := zEa 48 (.if_icmp .lt 14) 3 62 :: q_X1_number_51
def q_X1_number_40 : List zEnt := zE 40 (.aload_n 0) 1 :: zEf 41 (.getfield 9) 3 1 0 17 (2, 7, 0) :: zEf 44 (.getfield 132) 3 7 4 13 (0, 0, 0) :: zE 47 (.iload_n 1) 1 :: q_X1_number_48
def q_X1_number_71 : List zEnt := zE 71 .ireturn 1 :: []
def q_X1_number_70 : List zEnt := zE 70 (.iload_n 1) 1 :: q_X1_number_71
def q_X1_number_67 : List zEnt := zEc 67 (.invokevirtual 63) 3 61 2 12 1 :: q_X1_number_70
def q_X1_number_62 : List zEnt := zE 62 (.aload_n 0) 1 :: zEf 63 (.getfield 9) 3 1 0 17 (2, 7, 0) :: zEk 66 (.iconst 1) 1 1 :: q_X1_number_67
def q_X1_number_79 : List zEnt := zE 79 .ireturn 1 :: []
def q_X1_number_72 : List zEnt := zE 72 (.aload_n 0) 1 :: zEf 73 (.getfield 9) 3 1 0 17 (2, 7, 0) :: zEf 76 (.getfield 132) 3 7 4 13 (0, 0, 0) :: q_X1_number_79
def b_X1_number : List (Nat × List zEnt) := [(0, q_X1_number_0), (12, q_X1_number_12), (40, q_X1_number_40), (62, q_X1_number_62), (72, q_X1_number_72)]
theorem bk_X1_number : zchB 14 b_X1_number = true := by decide +kernel
noncomputable def cc_X1_number {ρ : Type} : Nat → zH → List zAV → (zH → zAV → Option ρ) → Option ρ := fun n σ av q => if n = 62 then g_X7_failed σ av q else if n = 63 then g_X7_next σ av q else if n = 61 then g_X7_fail σ av q else none
theorem cs_X1_number {ρ : Type} {X : zX} (hX : zHX X) : zCS X (cc_X1_number (ρ := ρ)) := by
  intro n σ av q r h hv
  unfold cc_X1_number at h
  by_cases e_X7_failed : n = 62
  · rw [if_pos e_X7_failed] at h
    subst e_X7_failed
    exact c_X7_failed hX h hv
  rw [if_neg e_X7_failed] at h
  by_cases e_X7_next : n = 63
  · rw [if_pos e_X7_next] at h
    subst e_X7_next
    exact c_X7_next hX h hv
  rw [if_neg e_X7_next] at h
  by_cases e_X7_fail : n = 61
  · rw [if_pos e_X7_fail] at h
    subst e_X7_fail
    exact c_X7_fail hX h hv
  rw [if_neg e_X7_fail] at h
  cases h
theorem cl_X1_number_X7_failed {ρ : Type} (σ : zH) (av : List zAV) (q : zH → zAV → Option ρ) : cc_X1_number 62 σ av q = g_X7_failed σ av q := rfl
theorem cl_X1_number_X7_next {ρ : Type} (σ : zH) (av : List zAV) (q : zH → zAV → Option ρ) : cc_X1_number 63 σ av q = g_X7_next σ av q := rfl
theorem cl_X1_number_X7_fail {ρ : Type} (σ : zH) (av : List zAV) (q : zH → zAV → Option ρ) : cc_X1_number 61 σ av q = g_X7_fail σ av q := rfl
theorem hy_X1_number {ρ : Type} {X : zX} (hX : zHX X) : zHY X 14 (cc_X1_number (ρ := ρ)) := zHX.hY hX (cs_X1_number hX) (zmok_all 14 (by decide))
def gl_X1_number_62 {ρ : Type} (f : zH → Int32 → Option ρ) (σ : zH) (L st : List zAV) : Option ρ := match L, st with
  | [.inr (.inr (.inl (1, 0))), .inl x1, _], [] => f σ x1
  | _, _ => none
theorem glr_X1_number_62 {ρ : Type} (f : zH → Int32 → Option ρ) (σ : zH) (x1 : Int32) (y2 : zAV) : gl_X1_number_62 f σ [vR 1 0, vI x1, y2] [] = f σ x1 := rfl
theorem t_X1_number_0 {G : Nat → zH → List zAV → List zAV → Option (zH × Int32)} (es : List zEnt) (σ : zH) (x1 : Int32) (x2 : Int32)   : zev cc_X1_number G 0 krI (zE 0 (.aload_n 0) 1 :: zEf 1 (.getfield 9) 3 1 0 17 (2, 7, 0) :: es) σ [vR 1 0, vI x1, vI x2] [] = zev cc_X1_number G 0 krI es σ [vR 1 0, vI x1, vI x2] [vR 7 0] := rfl
theorem t_X1_number_10 {G : Nat → zH → List zAV → List zAV → Option (zH × Int32)} (es : List zEnt) (σ : zH) (x1 : Int32) (y0 : zAV) (y2 : zAV)  : zev cc_X1_number G 0 krI (zE 10 (.iload_n 1) 1 :: es) σ [y0, vI x1, y2] [] = zev cc_X1_number G 0 krI es σ [y0, vI x1, y2] [vI x1] := rfl
theorem t_X1_number_12 {G : Nat → zH → List zAV → List zAV → Option (zH × Int32)} (es : List zEnt) (σ : zH) (x1 : Int32) (x2 : Int32)   : zev cc_X1_number G 0 krI (zE 12 (.aload_n 0) 1 :: zEf 13 (.getfield 9) 3 1 0 17 (2, 7, 0) :: es) σ [vR 1 0, vI x1, vI x2] [] = zev cc_X1_number G 0 krI es σ [vR 1 0, vI x1, vI x2] [vR 7 0] := rfl
theorem t_X1_number_19 {G : Nat → zH → List zAV → List zAV → Option (zH × Int32)} (es : List zEnt) (σ : zH) (x1 : Int32) (x2 : Int32)  (w26 : Int32) : zev cc_X1_number G 0 krI (zE 19 (.aload_n 0) 1 :: zEf 20 (.getfield 9) 3 1 0 17 (2, 7, 0) :: zEf 23 (.getfield 82) 3 7 3 8 (0, 0, 0) :: zEk 26 (.iconst 1) 1 w26 :: es) σ [vR 1 0, vI x1, vI x2] [] = zev cc_X1_number G 0 krI es σ [vR 1 0, vI x1, vI x2] [vI w26, vI (σ.1 7 0 3)] := rfl
theorem t_X1_number_30 {G : Nat → zH → List zAV → List zAV → Option (zH × Int32)} (es : List zEnt) (σ : zH) (x1 : Int32) (y2 : zAV) (w34 : Int32) : zev cc_X1_number G 0 krI (zE 30 (.aload_n 0) 1 :: zEf 31 (.getfield 9) 3 1 0 17 (2, 7, 0) :: zEk 34 (.iconst 0) 1 w34 :: es) σ [vR 1 0, vI x1, y2] [] = zev cc_X1_number G 0 krI es σ [vR 1 0, vI x1, y2] [vI w34, vR 7 0] := rfl
theorem t_X1_number_38 {G : Nat → zH → List zAV → List zAV → Option (zH × Int32)} (es : List zEnt) (σ : zH) (x1 : Int32) (y0 : zAV) (y2 : zAV)  : zev cc_X1_number G 0 krI (zE 38 (.iload_n 1) 1 :: es) σ [y0, vI x1, y2] [] = zev cc_X1_number G 0 krI es σ [y0, vI x1, y2] [vI x1] := rfl
theorem t_X1_number_40 {G : Nat → zH → List zAV → List zAV → Option (zH × Int32)} (es : List zEnt) (σ : zH) (x1 : Int32) (x2 : Int32)   : zev cc_X1_number G 0 krI (zE 40 (.aload_n 0) 1 :: zEf 41 (.getfield 9) 3 1 0 17 (2, 7, 0) :: zEf 44 (.getfield 132) 3 7 4 13 (0, 0, 0) :: zE 47 (.iload_n 1) 1 :: es) σ [vR 1 0, vI x1, vI x2] [] = zev cc_X1_number G 0 krI es σ [vR 1 0, vI x1, vI x2] [vI x1, vI (σ.1 7 0 4)] := rfl
theorem t_X1_number_51 {G : Nat → zH → List zAV → List zAV → Option (zH × Int32)} (es : List zEnt) (σ : zH) (x1 : Int32) (x2 : Int32)   : zev cc_X1_number G 0 krI (zE 51 (.aload_n 0) 1 :: zEf 52 (.getfield 9) 3 1 0 17 (2, 7, 0) :: zEf 55 (.getfield 132) 3 7 4 13 (0, 0, 0) :: zE 58 (.iload_n 2) 1 :: es) σ [vR 1 0, vI x1, vI x2] [] = zev cc_X1_number G 0 krI es σ [vR 1 0, vI x1, vI x2] [vI x2, vI (σ.1 7 0 4)] := rfl
theorem t_X1_number_62 {G : Nat → zH → List zAV → List zAV → Option (zH × Int32)} (es : List zEnt) (σ : zH) (x1 : Int32) (y2 : zAV) (w66 : Int32) : zev cc_X1_number G 0 krI (zE 62 (.aload_n 0) 1 :: zEf 63 (.getfield 9) 3 1 0 17 (2, 7, 0) :: zEk 66 (.iconst 1) 1 w66 :: es) σ [vR 1 0, vI x1, y2] [] = zev cc_X1_number G 0 krI es σ [vR 1 0, vI x1, y2] [vI w66, vR 7 0] := rfl
theorem t_X1_number_70 {G : Nat → zH → List zAV → List zAV → Option (zH × Int32)} (es : List zEnt) (σ : zH) (x1 : Int32) (y0 : zAV) (y2 : zAV)  : zev cc_X1_number G 0 krI (zE 70 (.iload_n 1) 1 :: es) σ [y0, vI x1, y2] [] = zev cc_X1_number G 0 krI es σ [y0, vI x1, y2] [vI x1] := rfl
theorem t_X1_number_72 {G : Nat → zH → List zAV → List zAV → Option (zH × Int32)} (es : List zEnt) (σ : zH)  (y1 : zAV) (y2 : zAV)  : zev cc_X1_number G 0 krI (zE 72 (.aload_n 0) 1 :: zEf 73 (.getfield 9) 3 1 0 17 (2, 7, 0) :: zEf 76 (.getfield 132) 3 7 4 13 (0, 0, 0) :: es) σ [vR 1 0, y1, y2] [] = zev cc_X1_number G 0 krI es σ [vR 1 0, y1, y2] [vI (σ.1 7 0 4)] := rfl
noncomputable def j_X1_number_62  (σ : zH) (x1 : Int32) : Option (zH × Int32) :=
  (d_X7_fail σ (1 : Int32)).bind fun σ1 =>
  some (σ1, x1)
theorem e_X1_number_62  (σ : zH) (x1 : Int32) (y2 : zAV) : j_X1_number_62 σ x1 = zin cc_X1_number (fun t => none) 0 krI b_X1_number 62 σ [vR 1 0, vI x1, y2] [] := by
  unfold j_X1_number_62
  refine Eq.symm ((zin_b (es := q_X1_number_62) rfl).trans ?_)
  refine (t_X1_number_62 _ _ _ _ _).trans ?_
  refine (x_callV rfl rfl rfl rfl).trans ((cl_X1_number_X7_fail _ _ _).trans ((gr_X7_fail _ _ _).trans (pbd fun _ => ?_)))
  refine (t_X1_number_70 _ _ _ _ _).trans ?_
  exact x_iret
theorem s_X1_number_62 {X : zX} (hX : zHX X)   : ∀ σ L st r, gl_X1_number_62 j_X1_number_62 σ L st = some r → zGW X 14 krI 62 σ L st r := by
  intro σ L st r h
  unfold gl_X1_number_62 at h
  split at h
  · exact zin_ok (hy_X1_number hX) bk_X1_number (fun t f hf => by
    cases hf) ((e_X1_number_62 _ _ _).symm.trans h)
  · cases h
noncomputable def d_X1_number (σ : zH) (xa1 : Int32) (xa2 : Int32) : Option (zH × Int32) :=
  (d_X7_failed σ).bind fun p1 =>
  if p1.2 = 0 then
    (d_X7_next p1.1).bind fun σ2 =>
    if (σ2.1 7 0 3) = (1 : Int32) then
      if (σ2.1 7 0 4) < xa1 then
        j_X1_number_62 σ2 xa1
      else
        if xa2 < (σ2.1 7 0 4) then
          j_X1_number_62 σ2 xa1
        else
          some (σ2, (σ2.1 7 0 4))
    else
      (d_X7_fail σ2 (0 : Int32)).bind fun σ3 =>
      some (σ3, xa1)
  else
    some (p1.1, xa1)
theorem e_X1_number (σ : zH) (xa1 : Int32) (xa2 : Int32) : d_X1_number σ xa1 xa2 = zin cc_X1_number (fun t => if t = 62 then some (gl_X1_number_62 j_X1_number_62) else none) 0 krI b_X1_number 0 σ [vR 1 0, vI xa1, vI xa2] [] := by
  unfold d_X1_number
  refine Eq.symm ((zin_b (es := q_X1_number_0) rfl).trans ?_)
  refine (t_X1_number_0 _ _ _ _).trans ?_
  refine (x_callV rfl rfl rfl rfl).trans ((cl_X1_number_X7_failed _ _ _).trans ((gr_X7_failed _ _).trans (pbd fun _ => ?_)))
  refine x_if.trans (pif_eq ?_ ?_)
  · refine (zrun_b (es := q_X1_number_12) rfl rfl).trans ?_
    refine (t_X1_number_12 _ _ _ _).trans ?_
    refine (x_callV rfl rfl rfl rfl).trans ((cl_X1_number_X7_next _ _ _).trans ((gr_X7_next _ _).trans (pbd fun _ => ?_)))
    refine (t_X1_number_19 _ _ _ _ _).trans ?_
    refine x_icmp.trans (pif_eq ?_ ?_)
    · refine (zrun_b (es := q_X1_number_40) rfl rfl).trans ?_
      refine (t_X1_number_40 _ _ _ _).trans ?_
      refine x_icmp.trans (pif_lt ?_ ?_)
      · exact (zrun_c rfl).trans (glr_X1_number_62 _ _ _ _)
      · refine (t_X1_number_51 _ _ _ _).trans ?_
        refine x_icmp.trans (pif_le ?_ ?_)
        · refine (zrun_b (es := q_X1_number_72) rfl rfl).trans ?_
          refine (t_X1_number_72 _ _ _ _).trans ?_
          exact x_iret
        · refine x_cut.trans ?_
          exact (zrun_c rfl).trans (glr_X1_number_62 _ _ _ _)
    · refine (t_X1_number_30 _ _ _ _ _).trans ?_
      refine (x_callV rfl rfl rfl rfl).trans ((cl_X1_number_X7_fail _ _ _).trans ((gr_X7_fail _ _ _).trans (pbd fun _ => ?_)))
      refine (t_X1_number_38 _ _ _ _ _).trans ?_
      exact x_iret
  · refine (t_X1_number_10 _ _ _ _ _).trans ?_
    exact x_iret
noncomputable def g_X1_number {ρ : Type} (σ : zH) (av : List zAV) (q : zH → zAV → Option ρ) : Option ρ := match av with
  | [.inr (.inr (.inl (1, 0))), .inl xa1, .inl xa2] => (d_X1_number σ xa1 xa2).bind fun p => q p.1 (vI p.2)
  | _ => none
theorem gr_X1_number {ρ : Type} (σ : zH) (xa1 : Int32) (xa2 : Int32) (q : zH → zAV → Option ρ) : g_X1_number σ [vR 1 0, vI xa1, vI xa2] q = (d_X1_number σ xa1 xa2).bind fun p => q p.1 (vI p.2) := rfl
theorem c_X1_number {ρ : Type} {X : zX} (hX : zHX X) {σ : zH} {av : List zAV} {q : zH → zAV → Option ρ} {r : ρ} (h : g_X1_number σ av q = some r) (hv : ∀ a ∈ av, zval X a) : zcon X 14 σ av q r := by
  unfold g_X1_number at h
  split at h
  · exact zcon_I (n := 14) (ml := 3) (rc := 0) (st := 0) (kd := 1) (np := 2) (by decide +kernel) (by decide) ⟨_, _, rfl, rfl⟩ (Nat.le_of_ble_eq_true rfl) hv h (fun y h1 => (zin_ok (hy_X1_number hX) bk_X1_number (fun t f hf => by
      by_cases e62 : t = 62
      · rw [if_pos e62] at hf; subst e62; cases hf; exact (s_X1_number_62 hX)
      rw [if_neg e62] at hf
      cases hf) ((e_X1_number _ _ _).symm.trans h1)))
  · cases h
/-! SleepWaves$CampReader.readCompany()V -/
def q_X1_readCompany_16 : List zEnt := zEa 16 (.goto 4) 3 20 :: []
def q_X1_readCompany_15 : List zEnt := zEk 15 (.iconst 1) 1 1 :: q_X1_readCompany_16
def q_X1_readCompany_12 : List zEnt := zEa 12 (.if_icmp .lt 7) 3 19 :: q_X1_readCompany_15
def q_X1_readCompany_4 : List zEnt := zEf 4 (.getfield 85) 3 0 0 34 (0, 0, 0) :: zE 7 (.istore_n 1) 1 :: zE 8 (.aload_n 0) 1 :: zE 9 (.iload_n 1) 1 :: zEk 10 (.bipush 12) 2 12 :: q_X1_readCompany_12
def q_X1_readCompany_1 : List zEnt := zEf 1 (.getfield 15) 3 1 1 18 (3, 0, 0) :: q_X1_readCompany_4
def q_X1_readCompany_0 : List zEnt := zE 0 (.aload_n 0) 1 :: q_X1_readCompany_1
def q_X1_readCompany_19 : List zEnt := zEk 19 (.iconst 0) 1 0 :: [zE 20 .nop 0]
def q_X1_readCompany_26 : List zEnt := zE 26 .return_ 1 :: []
def q_X1_readCompany_23 : List zEnt := zEa 23 (.ifCond .eq 4) 3 27 :: q_X1_readCompany_26
def q_X1_readCompany_20 : List zEnt := zEc 20 (.invokevirtual 88) 3 9 2 11 0 :: q_X1_readCompany_23
def q_X1_readCompany_100 : List zEnt := zE 100 .return_ 1 :: []
def q_X1_readCompany_97 : List zEnt := zEf 97 (.putfield 85) 3 0 0 34 (0, 0, 0) :: q_X1_readCompany_100
def q_X1_readCompany_94 : List zEnt := zE 94 (.iload_n 1) 1 :: zEk 95 (.iconst 1) 1 1 :: zE 96 .iadd 1 :: q_X1_readCompany_97
def q_X1_readCompany_91 : List zEnt := zEf 91 (.getfield 15) 3 1 1 18 (3, 0, 0) :: q_X1_readCompany_94
def q_X1_readCompany_90 : List zEnt := zE 90 (.aload_n 0) 1 :: q_X1_readCompany_91
def q_X1_readCompany_89 : List zEnt := zE 89 .iastore 1 :: q_X1_readCompany_90
def q_X1_readCompany_86 : List zEnt := zEc 86 (.invokevirtual 96) 3 14 3 13 0 :: q_X1_readCompany_89
def q_X1_readCompany_78 : List zEnt := zEf 78 (.getfield 106) 3 0 4 52 (1, 15, 0) :: zE 81 (.iload_n 1) 1 :: zE 82 (.aload_n 0) 1 :: zEk 83 (.iconst 0) 1 0 :: zEk 84 (.bipush 100) 2 100 :: q_X1_readCompany_86
def q_X1_readCompany_75 : List zEnt := zEf 75 (.getfield 15) 3 1 1 18 (3, 0, 0) :: q_X1_readCompany_78
def q_X1_readCompany_74 : List zEnt := zE 74 (.aload_n 0) 1 :: q_X1_readCompany_75
def q_X1_readCompany_73 : List zEnt := zE 73 .iastore 1 :: q_X1_readCompany_74
def q_X1_readCompany_70 : List zEnt := zEc 70 (.invokevirtual 96) 3 14 3 13 0 :: q_X1_readCompany_73
def q_X1_readCompany_62 : List zEnt := zEf 62 (.getfield 103) 3 0 3 47 (1, 14, 0) :: zE 65 (.iload_n 1) 1 :: zE 66 (.aload_n 0) 1 :: zEk 67 (.iconst 0) 1 0 :: zEk 68 (.bipush 11) 2 11 :: q_X1_readCompany_70
def q_X1_readCompany_59 : List zEnt := zEf 59 (.getfield 15) 3 1 1 18 (3, 0, 0) :: q_X1_readCompany_62
def q_X1_readCompany_58 : List zEnt := zE 58 (.aload_n 0) 1 :: q_X1_readCompany_59
def q_X1_readCompany_57 : List zEnt := zE 57 .iastore 1 :: q_X1_readCompany_58
def q_X1_readCompany_54 : List zEnt := zEc 54 (.invokevirtual 96) 3 14 3 13 0 :: q_X1_readCompany_57
def q_X1_readCompany_47 : List zEnt := zEf 47 (.getfield 100) 3 0 2 42 (1, 13, 0) :: zE 50 (.iload_n 1) 1 :: zE 51 (.aload_n 0) 1 :: zEk 52 (.iconst 0) 1 0 :: zEk 53 (.iconst 3) 1 3 :: q_X1_readCompany_54
def q_X1_readCompany_44 : List zEnt := zEf 44 (.getfield 15) 3 1 1 18 (3, 0, 0) :: q_X1_readCompany_47
def q_X1_readCompany_43 : List zEnt := zE 43 (.aload_n 0) 1 :: q_X1_readCompany_44
def q_X1_readCompany_42 : List zEnt := zE 42 .iastore 1 :: q_X1_readCompany_43
def q_X1_readCompany_39 : List zEnt := zEc 39 (.invokevirtual 96) 3 14 3 13 0 :: q_X1_readCompany_42
def q_X1_readCompany_31 : List zEnt := zEf 31 (.getfield 92) 3 0 1 37 (1, 12, 0) :: zE 34 (.iload_n 1) 1 :: zE 35 (.aload_n 0) 1 :: zEk 36 (.iconst 1) 1 1 :: zEk 37 (.bipush 99) 2 99 :: q_X1_readCompany_39
def q_X1_readCompany_28 : List zEnt := zEf 28 (.getfield 15) 3 1 1 18 (3, 0, 0) :: q_X1_readCompany_31
def q_X1_readCompany_27 : List zEnt := zE 27 (.aload_n 0) 1 :: q_X1_readCompany_28
def b_X1_readCompany : List (Nat × List zEnt) := [(0, q_X1_readCompany_0), (19, q_X1_readCompany_19), (20, q_X1_readCompany_20), (27, q_X1_readCompany_27)]
theorem bk_X1_readCompany : zchB 10 b_X1_readCompany = true := by decide +kernel
noncomputable def cc_X1_readCompany {ρ : Type} : Nat → zH → List zAV → (zH → zAV → Option ρ) → Option ρ := fun n σ av q => if n = 9 then g_X1_isOneTooMany σ av q else if n = 14 then g_X1_number σ av q else none
theorem cs_X1_readCompany {ρ : Type} {X : zX} (hX : zHX X) : zCS X (cc_X1_readCompany (ρ := ρ)) := by
  intro n σ av q r h hv
  unfold cc_X1_readCompany at h
  by_cases e_X1_isOneTooMany : n = 9
  · rw [if_pos e_X1_isOneTooMany] at h
    subst e_X1_isOneTooMany
    exact c_X1_isOneTooMany hX h hv
  rw [if_neg e_X1_isOneTooMany] at h
  by_cases e_X1_number : n = 14
  · rw [if_pos e_X1_number] at h
    subst e_X1_number
    exact c_X1_number hX h hv
  rw [if_neg e_X1_number] at h
  cases h
theorem cl_X1_readCompany_X1_isOneTooMany {ρ : Type} (σ : zH) (av : List zAV) (q : zH → zAV → Option ρ) : cc_X1_readCompany 9 σ av q = g_X1_isOneTooMany σ av q := rfl
theorem cl_X1_readCompany_X1_number {ρ : Type} (σ : zH) (av : List zAV) (q : zH → zAV → Option ρ) : cc_X1_readCompany 14 σ av q = g_X1_number σ av q := rfl
theorem hy_X1_readCompany {ρ : Type} {X : zX} (hX : zHX X) : zHY X 10 (cc_X1_readCompany (ρ := ρ)) := zHX.hY hX (cs_X1_readCompany hX) (zmok_all 10 (by decide))
def gl_X1_readCompany_20 {ρ : Type} (f : zH → Int32 → Int32 → Option ρ) (σ : zH) (L st : List zAV) : Option ρ := match L, st with
  | [.inr (.inr (.inl (1, 0))), .inl x1], [.inl xs1, .inr (.inr (.inl (1, 0)))] => f σ x1 xs1
  | _, _ => none
theorem glr_X1_readCompany_20 {ρ : Type} (f : zH → Int32 → Int32 → Option ρ) (σ : zH) (x1 : Int32) (xs1 : Int32)  : gl_X1_readCompany_20 f σ [vR 1 0, vI x1] [vI xs1, vR 1 0] = f σ x1 xs1 := rfl
theorem t_X1_readCompany_0 {G : Nat → zH → List zAV → List zAV → Option zH} (es : List zEnt) (σ : zH)  (y1 : zAV)  : zev cc_X1_readCompany G 9 krV (zE 0 (.aload_n 0) 1 :: es) σ [vR 1 0, y1] [] = zev cc_X1_readCompany G 9 krV es σ [vR 1 0, y1] [vR 1 0] := rfl
theorem t_X1_readCompany_4 {G : Nat → zH → List zAV → List zAV → Option zH} (es : List zEnt) (σ : zH) (is0 : Nat) (y1 : zAV) (w10 : Int32) : zev cc_X1_readCompany G 9 krV (zEf 4 (.getfield 85) 3 0 0 34 (0, 0, 0) :: zE 7 (.istore_n 1) 1 :: zE 8 (.aload_n 0) 1 :: zE 9 (.iload_n 1) 1 :: zEk 10 (.bipush 12) 2 w10 :: es) σ [vR 1 0, y1] [vR 0 is0] = zev cc_X1_readCompany G 9 krV es σ [vR 1 0, vI (σ.1 0 is0 0)] [vI w10, vI (σ.1 0 is0 0), vR 1 0] := rfl
theorem t_X1_readCompany_15 {G : Nat → zH → List zAV → List zAV → Option zH} (es : List zEnt) (σ : zH) (x1 : Int32)  (w15 : Int32) : zev cc_X1_readCompany G 9 krV (zEk 15 (.iconst 1) 1 w15 :: es) σ [vR 1 0, vI x1] [vR 1 0] = zev cc_X1_readCompany G 9 krV es σ [vR 1 0, vI x1] [vI w15, vR 1 0] := rfl
theorem t_X1_readCompany_19 {G : Nat → zH → List zAV → List zAV → Option zH} (es : List zEnt) (σ : zH) (x1 : Int32)  (w19 : Int32) : zev cc_X1_readCompany G 9 krV (zEk 19 (.iconst 0) 1 w19 :: es) σ [vR 1 0, vI x1] [vR 1 0] = zev cc_X1_readCompany G 9 krV es σ [vR 1 0, vI x1] [vI w19, vR 1 0] := rfl
theorem t_X1_readCompany_27 {G : Nat → zH → List zAV → List zAV → Option zH} (es : List zEnt) (σ : zH) (x1 : Int32)   : zev cc_X1_readCompany G 9 krV (zE 27 (.aload_n 0) 1 :: es) σ [vR 1 0, vI x1] [] = zev cc_X1_readCompany G 9 krV es σ [vR 1 0, vI x1] [vR 1 0] := rfl
theorem t_X1_readCompany_31 {G : Nat → zH → List zAV → List zAV → Option zH} (es : List zEnt) (σ : zH) (x1 : Int32) (is0 : Nat)  (w36 : Int32) (w37 : Int32) : zev cc_X1_readCompany G 9 krV (zEf 31 (.getfield 92) 3 0 1 37 (1, 12, 0) :: zE 34 (.iload_n 1) 1 :: zE 35 (.aload_n 0) 1 :: zEk 36 (.iconst 1) 1 w36 :: zEk 37 (.bipush 99) 2 w37 :: es) σ [vR 1 0, vI x1] [vR 0 is0] = zev cc_X1_readCompany G 9 krV es σ [vR 1 0, vI x1] [vI w37, vI w36, vR 1 0, vI x1, vR 12 (is0 + 0)] := rfl
theorem t_X1_readCompany_43 {G : Nat → zH → List zAV → List zAV → Option zH} (es : List zEnt) (σ : zH) (x1 : Int32)   : zev cc_X1_readCompany G 9 krV (zE 43 (.aload_n 0) 1 :: es) σ [vR 1 0, vI x1] [] = zev cc_X1_readCompany G 9 krV es σ [vR 1 0, vI x1] [vR 1 0] := rfl
theorem t_X1_readCompany_47 {G : Nat → zH → List zAV → List zAV → Option zH} (es : List zEnt) (σ : zH) (x1 : Int32) (is0 : Nat)  (w52 : Int32) (w53 : Int32) : zev cc_X1_readCompany G 9 krV (zEf 47 (.getfield 100) 3 0 2 42 (1, 13, 0) :: zE 50 (.iload_n 1) 1 :: zE 51 (.aload_n 0) 1 :: zEk 52 (.iconst 0) 1 w52 :: zEk 53 (.iconst 3) 1 w53 :: es) σ [vR 1 0, vI x1] [vR 0 is0] = zev cc_X1_readCompany G 9 krV es σ [vR 1 0, vI x1] [vI w53, vI w52, vR 1 0, vI x1, vR 13 (is0 + 0)] := rfl
theorem t_X1_readCompany_58 {G : Nat → zH → List zAV → List zAV → Option zH} (es : List zEnt) (σ : zH) (x1 : Int32)   : zev cc_X1_readCompany G 9 krV (zE 58 (.aload_n 0) 1 :: es) σ [vR 1 0, vI x1] [] = zev cc_X1_readCompany G 9 krV es σ [vR 1 0, vI x1] [vR 1 0] := rfl
theorem t_X1_readCompany_62 {G : Nat → zH → List zAV → List zAV → Option zH} (es : List zEnt) (σ : zH) (x1 : Int32) (is0 : Nat)  (w67 : Int32) (w68 : Int32) : zev cc_X1_readCompany G 9 krV (zEf 62 (.getfield 103) 3 0 3 47 (1, 14, 0) :: zE 65 (.iload_n 1) 1 :: zE 66 (.aload_n 0) 1 :: zEk 67 (.iconst 0) 1 w67 :: zEk 68 (.bipush 11) 2 w68 :: es) σ [vR 1 0, vI x1] [vR 0 is0] = zev cc_X1_readCompany G 9 krV es σ [vR 1 0, vI x1] [vI w68, vI w67, vR 1 0, vI x1, vR 14 (is0 + 0)] := rfl
theorem t_X1_readCompany_74 {G : Nat → zH → List zAV → List zAV → Option zH} (es : List zEnt) (σ : zH) (x1 : Int32)   : zev cc_X1_readCompany G 9 krV (zE 74 (.aload_n 0) 1 :: es) σ [vR 1 0, vI x1] [] = zev cc_X1_readCompany G 9 krV es σ [vR 1 0, vI x1] [vR 1 0] := rfl
theorem t_X1_readCompany_78 {G : Nat → zH → List zAV → List zAV → Option zH} (es : List zEnt) (σ : zH) (x1 : Int32) (is0 : Nat)  (w83 : Int32) (w84 : Int32) : zev cc_X1_readCompany G 9 krV (zEf 78 (.getfield 106) 3 0 4 52 (1, 15, 0) :: zE 81 (.iload_n 1) 1 :: zE 82 (.aload_n 0) 1 :: zEk 83 (.iconst 0) 1 w83 :: zEk 84 (.bipush 100) 2 w84 :: es) σ [vR 1 0, vI x1] [vR 0 is0] = zev cc_X1_readCompany G 9 krV es σ [vR 1 0, vI x1] [vI w84, vI w83, vR 1 0, vI x1, vR 15 (is0 + 0)] := rfl
theorem t_X1_readCompany_90 {G : Nat → zH → List zAV → List zAV → Option zH} (es : List zEnt) (σ : zH) (x1 : Int32)   : zev cc_X1_readCompany G 9 krV (zE 90 (.aload_n 0) 1 :: es) σ [vR 1 0, vI x1] [] = zev cc_X1_readCompany G 9 krV es σ [vR 1 0, vI x1] [vR 1 0] := rfl
theorem t_X1_readCompany_94 {G : Nat → zH → List zAV → List zAV → Option zH} (es : List zEnt) (σ : zH) (x1 : Int32) (is0 : Nat) (y0 : zAV) (w95 : Int32) : zev cc_X1_readCompany G 9 krV (zE 94 (.iload_n 1) 1 :: zEk 95 (.iconst 1) 1 w95 :: zE 96 .iadd 1 :: es) σ [y0, vI x1] [vR 0 is0] = zev cc_X1_readCompany G 9 krV es σ [y0, vI x1] [vI (x1 + w95), vR 0 is0] := rfl
noncomputable def j_X1_readCompany_20  (σ : zH) (x1 : Int32) (xs1 : Int32) : Option zH :=
  (d_X1_isOneTooMany σ xs1).bind fun p1 =>
  if p1.2 = 0 then
    ix (p1.1.1 1 0 1) 9 fun j2 =>
    (d_X1_number p1.1 (1 : Int32) (99 : Int32)).bind fun p3 =>
    ix x1 12 fun j19 =>
    zlet (uI p3.1 12 (j2 + 0) j19 p3.2) fun σ4 =>
    ix (σ4.1 1 0 1) 9 fun j5 =>
    (d_X1_number σ4 (0 : Int32) (3 : Int32)).bind fun p6 =>
    ix x1 12 fun j18 =>
    zlet (uI p6.1 13 (j5 + 0) j18 p6.2) fun σ7 =>
    ix (σ7.1 1 0 1) 9 fun j8 =>
    (d_X1_number σ7 (0 : Int32) (11 : Int32)).bind fun p9 =>
    ix x1 12 fun j17 =>
    zlet (uI p9.1 14 (j8 + 0) j17 p9.2) fun σ10 =>
    ix (σ10.1 1 0 1) 9 fun j11 =>
    (d_X1_number σ10 (0 : Int32) (100 : Int32)).bind fun p12 =>
    ix x1 12 fun j16 =>
    zlet (uI p12.1 15 (j11 + 0) j16 p12.2) fun σ13 =>
    ix (σ13.1 1 0 1) 9 fun j14 =>
    zlet (uI σ13 0 j14 0 (x1 + (1 : Int32))) fun σ15 =>
    some σ15
  else
    some p1.1
theorem e_X1_readCompany_20  (σ : zH) (x1 : Int32) (xs1 : Int32)  : j_X1_readCompany_20 σ x1 xs1 = zin cc_X1_readCompany (fun t => none) 9 krV b_X1_readCompany 20 σ [vR 1 0, vI x1] [vI xs1, vR 1 0] := by
  unfold j_X1_readCompany_20
  refine Eq.symm ((zin_b (es := q_X1_readCompany_20) rfl).trans ?_)
  refine (x_callV rfl rfl rfl rfl).trans ((cl_X1_readCompany_X1_isOneTooMany _ _ _).trans ((gr_X1_isOneTooMany _ _ _).trans (pbd fun _ => ?_)))
  refine x_if.trans (pif_eq ?_ ?_)
  · refine (zrun_b (es := q_X1_readCompany_27) rfl rfl).trans ?_
    refine (t_X1_readCompany_27 _ _ _).trans ?_
    refine x_gf3.trans (pix fun _ => ?_)
    refine (t_X1_readCompany_31 _ _ _ _ _ _).trans ?_
    refine (x_callV rfl rfl rfl rfl).trans ((cl_X1_readCompany_X1_number _ _ _).trans ((gr_X1_number _ _ _ _).trans (pbd fun _ => ?_)))
    refine (x_iast (N := 12) rfl rfl).trans (pix fun _ => plt fun _ => ?_)
    refine (t_X1_readCompany_43 _ _ _).trans ?_
    refine x_gf3.trans (pix fun _ => ?_)
    refine (t_X1_readCompany_47 _ _ _ _ _ _).trans ?_
    refine (x_callV rfl rfl rfl rfl).trans ((cl_X1_readCompany_X1_number _ _ _).trans ((gr_X1_number _ _ _ _).trans (pbd fun _ => ?_)))
    refine (x_iast (N := 12) rfl rfl).trans (pix fun _ => plt fun _ => ?_)
    refine (t_X1_readCompany_58 _ _ _).trans ?_
    refine x_gf3.trans (pix fun _ => ?_)
    refine (t_X1_readCompany_62 _ _ _ _ _ _).trans ?_
    refine (x_callV rfl rfl rfl rfl).trans ((cl_X1_readCompany_X1_number _ _ _).trans ((gr_X1_number _ _ _ _).trans (pbd fun _ => ?_)))
    refine (x_iast (N := 12) rfl rfl).trans (pix fun _ => plt fun _ => ?_)
    refine (t_X1_readCompany_74 _ _ _).trans ?_
    refine x_gf3.trans (pix fun _ => ?_)
    refine (t_X1_readCompany_78 _ _ _ _ _ _).trans ?_
    refine (x_callV rfl rfl rfl rfl).trans ((cl_X1_readCompany_X1_number _ _ _).trans ((gr_X1_number _ _ _ _).trans (pbd fun _ => ?_)))
    refine (x_iast (N := 12) rfl rfl).trans (pix fun _ => plt fun _ => ?_)
    refine (t_X1_readCompany_90 _ _ _).trans ?_
    refine x_gf3.trans (pix fun _ => ?_)
    refine (t_X1_readCompany_94 _ _ _ _ _ _).trans ?_
    refine x_pf0.trans (plt fun _ => ?_)
    exact x_vret
  · exact x_vret
theorem s_X1_readCompany_20 {X : zX} (hX : zHX X)   : ∀ σ L st r, gl_X1_readCompany_20 j_X1_readCompany_20 σ L st = some r → zGW X 10 krV 20 σ L st r := by
  intro σ L st r h
  unfold gl_X1_readCompany_20 at h
  split at h
  · exact zin_ok (hy_X1_readCompany hX) bk_X1_readCompany (fun t f hf => by
    cases hf) ((e_X1_readCompany_20 _ _ _).symm.trans h)
  · cases h
noncomputable def d_X1_readCompany (σ : zH)  : Option zH :=
  ix (σ.1 1 0 1) 9 fun j1 =>
  if (σ.1 0 j1 0) < (12 : Int32) then
    j_X1_readCompany_20 σ (σ.1 0 j1 0) (0 : Int32)
  else
    j_X1_readCompany_20 σ (σ.1 0 j1 0) (1 : Int32)
theorem e_X1_readCompany (σ : zH)  : d_X1_readCompany σ = zin cc_X1_readCompany (fun t => if t = 20 then some (gl_X1_readCompany_20 j_X1_readCompany_20) else none) 9 krV b_X1_readCompany 0 σ [vR 1 0, vU] [] := by
  unfold d_X1_readCompany
  refine Eq.symm ((zin_b (es := q_X1_readCompany_0) rfl).trans ?_)
  refine (t_X1_readCompany_0 _ _ _).trans ?_
  refine x_gf3.trans (pix fun _ => ?_)
  refine (t_X1_readCompany_4 _ _ _ _ _).trans ?_
  refine x_icmp.trans (pif_lt ?_ ?_)
  · refine (zrun_b (es := q_X1_readCompany_19) rfl rfl).trans ?_
    refine (t_X1_readCompany_19 _ _ _ _).trans ?_
    refine x_cut.trans ?_
    exact (zrun_c rfl).trans (glr_X1_readCompany_20 _ _ _ _)
  · refine (t_X1_readCompany_15 _ _ _ _).trans ?_
    refine x_goto.trans ?_
    exact (zrun_c rfl).trans (glr_X1_readCompany_20 _ _ _ _)
noncomputable def g_X1_readCompany {ρ : Type} (σ : zH) (av : List zAV) (q : zH → zAV → Option ρ) : Option ρ := match av with
  | [.inr (.inr (.inl (1, 0)))] => (d_X1_readCompany σ).bind fun σ => q σ vU
  | _ => none
theorem gr_X1_readCompany {ρ : Type} (σ : zH)  (q : zH → zAV → Option ρ) : g_X1_readCompany σ [vR 1 0] q = (d_X1_readCompany σ).bind fun σ => q σ vU := rfl
theorem c_X1_readCompany {ρ : Type} {X : zX} (hX : zHX X) {σ : zH} {av : List zAV} {q : zH → zAV → Option ρ} {r : ρ} (h : g_X1_readCompany σ av q = some r) (hv : ∀ a ∈ av, zval X a) : zcon X 10 σ av q r := by
  unfold g_X1_readCompany at h
  split at h
  · exact zcon_V (n := 10) (ml := 2) (rc := 9) (st := 0) (kd := 1) (np := 0) (by decide +kernel) rfl ⟨_, _, rfl, rfl⟩ (Nat.le_of_ble_eq_true rfl) hv h (fun y h1 => (zin_ok (hy_X1_readCompany hX) bk_X1_readCompany (fun t f hf => by
      by_cases e20 : t = 20
      · rw [if_pos e20] at hf; subst e20; cases hf; exact (s_X1_readCompany_20 hX)
      rw [if_neg e20] at hf
      cases hf) ((e_X1_readCompany _).symm.trans h1)))
  · cases h
/-! SleepWaves$CampReader.readBell()V -/
def q_X1_readBell_16 : List zEnt := zEa 16 (.goto 4) 3 20 :: []
def q_X1_readBell_15 : List zEnt := zEk 15 (.iconst 1) 1 1 :: q_X1_readBell_16
def q_X1_readBell_12 : List zEnt := zEa 12 (.if_icmp .lt 7) 3 19 :: q_X1_readBell_15
def q_X1_readBell_4 : List zEnt := zEf 4 (.getfield 109) 3 0 5 56 (0, 0, 0) :: zE 7 (.istore_n 1) 1 :: zE 8 (.aload_n 0) 1 :: zE 9 (.iload_n 1) 1 :: zEk 10 (.bipush 8) 2 8 :: q_X1_readBell_12
def q_X1_readBell_1 : List zEnt := zEf 1 (.getfield 15) 3 1 1 18 (3, 0, 0) :: q_X1_readBell_4
def q_X1_readBell_0 : List zEnt := zE 0 (.aload_n 0) 1 :: q_X1_readBell_1
def q_X1_readBell_19 : List zEnt := zEk 19 (.iconst 0) 1 0 :: [zE 20 .nop 0]
def q_X1_readBell_26 : List zEnt := zE 26 .return_ 1 :: []
def q_X1_readBell_23 : List zEnt := zEa 23 (.ifCond .eq 4) 3 27 :: q_X1_readBell_26
def q_X1_readBell_20 : List zEnt := zEc 20 (.invokevirtual 88) 3 9 2 11 0 :: q_X1_readBell_23
def q_X1_readBell_69 : List zEnt := zE 69 .return_ 1 :: []
def q_X1_readBell_66 : List zEnt := zEf 66 (.putfield 109) 3 0 5 56 (0, 0, 0) :: q_X1_readBell_69
def q_X1_readBell_63 : List zEnt := zE 63 (.iload_n 1) 1 :: zEk 64 (.iconst 1) 1 1 :: zE 65 .iadd 1 :: q_X1_readBell_66
def q_X1_readBell_60 : List zEnt := zEf 60 (.getfield 15) 3 1 1 18 (3, 0, 0) :: q_X1_readBell_63
def q_X1_readBell_59 : List zEnt := zE 59 (.aload_n 0) 1 :: q_X1_readBell_60
def q_X1_readBell_58 : List zEnt := zE 58 .iastore 1 :: q_X1_readBell_59
def q_X1_readBell_55 : List zEnt := zEc 55 (.invokevirtual 96) 3 14 3 13 0 :: q_X1_readBell_58
def q_X1_readBell_47 : List zEnt := zEf 47 (.getfield 115) 3 0 7 62 (1, 17, 0) :: zE 50 (.iload_n 1) 1 :: zE 51 (.aload_n 0) 1 :: zEk 52 (.iconst 1) 1 1 :: zEk 53 (.bipush 9) 2 9 :: q_X1_readBell_55
def q_X1_readBell_44 : List zEnt := zEf 44 (.getfield 15) 3 1 1 18 (3, 0, 0) :: q_X1_readBell_47
def q_X1_readBell_43 : List zEnt := zE 43 (.aload_n 0) 1 :: q_X1_readBell_44
def q_X1_readBell_42 : List zEnt := zE 42 .iastore 1 :: q_X1_readBell_43
def q_X1_readBell_39 : List zEnt := zEc 39 (.invokevirtual 96) 3 14 3 13 0 :: q_X1_readBell_42
def q_X1_readBell_31 : List zEnt := zEf 31 (.getfield 112) 3 0 6 60 (1, 16, 0) :: zE 34 (.iload_n 1) 1 :: zE 35 (.aload_n 0) 1 :: zEk 36 (.iconst 0) 1 0 :: zEk 37 (.bipush 95) 2 95 :: q_X1_readBell_39
def q_X1_readBell_28 : List zEnt := zEf 28 (.getfield 15) 3 1 1 18 (3, 0, 0) :: q_X1_readBell_31
def q_X1_readBell_27 : List zEnt := zE 27 (.aload_n 0) 1 :: q_X1_readBell_28
def b_X1_readBell : List (Nat × List zEnt) := [(0, q_X1_readBell_0), (19, q_X1_readBell_19), (20, q_X1_readBell_20), (27, q_X1_readBell_27)]
theorem bk_X1_readBell : zchB 11 b_X1_readBell = true := by decide +kernel
noncomputable def cc_X1_readBell {ρ : Type} : Nat → zH → List zAV → (zH → zAV → Option ρ) → Option ρ := fun n σ av q => if n = 9 then g_X1_isOneTooMany σ av q else if n = 14 then g_X1_number σ av q else none
theorem cs_X1_readBell {ρ : Type} {X : zX} (hX : zHX X) : zCS X (cc_X1_readBell (ρ := ρ)) := by
  intro n σ av q r h hv
  unfold cc_X1_readBell at h
  by_cases e_X1_isOneTooMany : n = 9
  · rw [if_pos e_X1_isOneTooMany] at h
    subst e_X1_isOneTooMany
    exact c_X1_isOneTooMany hX h hv
  rw [if_neg e_X1_isOneTooMany] at h
  by_cases e_X1_number : n = 14
  · rw [if_pos e_X1_number] at h
    subst e_X1_number
    exact c_X1_number hX h hv
  rw [if_neg e_X1_number] at h
  cases h
theorem cl_X1_readBell_X1_isOneTooMany {ρ : Type} (σ : zH) (av : List zAV) (q : zH → zAV → Option ρ) : cc_X1_readBell 9 σ av q = g_X1_isOneTooMany σ av q := rfl
theorem cl_X1_readBell_X1_number {ρ : Type} (σ : zH) (av : List zAV) (q : zH → zAV → Option ρ) : cc_X1_readBell 14 σ av q = g_X1_number σ av q := rfl
theorem hy_X1_readBell {ρ : Type} {X : zX} (hX : zHX X) : zHY X 11 (cc_X1_readBell (ρ := ρ)) := zHX.hY hX (cs_X1_readBell hX) (zmok_all 11 (by decide))
def gl_X1_readBell_20 {ρ : Type} (f : zH → Int32 → Int32 → Option ρ) (σ : zH) (L st : List zAV) : Option ρ := match L, st with
  | [.inr (.inr (.inl (1, 0))), .inl x1], [.inl xs1, .inr (.inr (.inl (1, 0)))] => f σ x1 xs1
  | _, _ => none
theorem glr_X1_readBell_20 {ρ : Type} (f : zH → Int32 → Int32 → Option ρ) (σ : zH) (x1 : Int32) (xs1 : Int32)  : gl_X1_readBell_20 f σ [vR 1 0, vI x1] [vI xs1, vR 1 0] = f σ x1 xs1 := rfl
theorem t_X1_readBell_0 {G : Nat → zH → List zAV → List zAV → Option zH} (es : List zEnt) (σ : zH)  (y1 : zAV)  : zev cc_X1_readBell G 9 krV (zE 0 (.aload_n 0) 1 :: es) σ [vR 1 0, y1] [] = zev cc_X1_readBell G 9 krV es σ [vR 1 0, y1] [vR 1 0] := rfl
theorem t_X1_readBell_4 {G : Nat → zH → List zAV → List zAV → Option zH} (es : List zEnt) (σ : zH) (is0 : Nat) (y1 : zAV) (w10 : Int32) : zev cc_X1_readBell G 9 krV (zEf 4 (.getfield 109) 3 0 5 56 (0, 0, 0) :: zE 7 (.istore_n 1) 1 :: zE 8 (.aload_n 0) 1 :: zE 9 (.iload_n 1) 1 :: zEk 10 (.bipush 8) 2 w10 :: es) σ [vR 1 0, y1] [vR 0 is0] = zev cc_X1_readBell G 9 krV es σ [vR 1 0, vI (σ.1 0 is0 5)] [vI w10, vI (σ.1 0 is0 5), vR 1 0] := rfl
theorem t_X1_readBell_15 {G : Nat → zH → List zAV → List zAV → Option zH} (es : List zEnt) (σ : zH) (x1 : Int32)  (w15 : Int32) : zev cc_X1_readBell G 9 krV (zEk 15 (.iconst 1) 1 w15 :: es) σ [vR 1 0, vI x1] [vR 1 0] = zev cc_X1_readBell G 9 krV es σ [vR 1 0, vI x1] [vI w15, vR 1 0] := rfl
theorem t_X1_readBell_19 {G : Nat → zH → List zAV → List zAV → Option zH} (es : List zEnt) (σ : zH) (x1 : Int32)  (w19 : Int32) : zev cc_X1_readBell G 9 krV (zEk 19 (.iconst 0) 1 w19 :: es) σ [vR 1 0, vI x1] [vR 1 0] = zev cc_X1_readBell G 9 krV es σ [vR 1 0, vI x1] [vI w19, vR 1 0] := rfl
theorem t_X1_readBell_27 {G : Nat → zH → List zAV → List zAV → Option zH} (es : List zEnt) (σ : zH) (x1 : Int32)   : zev cc_X1_readBell G 9 krV (zE 27 (.aload_n 0) 1 :: es) σ [vR 1 0, vI x1] [] = zev cc_X1_readBell G 9 krV es σ [vR 1 0, vI x1] [vR 1 0] := rfl
theorem t_X1_readBell_31 {G : Nat → zH → List zAV → List zAV → Option zH} (es : List zEnt) (σ : zH) (x1 : Int32) (is0 : Nat)  (w36 : Int32) (w37 : Int32) : zev cc_X1_readBell G 9 krV (zEf 31 (.getfield 112) 3 0 6 60 (1, 16, 0) :: zE 34 (.iload_n 1) 1 :: zE 35 (.aload_n 0) 1 :: zEk 36 (.iconst 0) 1 w36 :: zEk 37 (.bipush 95) 2 w37 :: es) σ [vR 1 0, vI x1] [vR 0 is0] = zev cc_X1_readBell G 9 krV es σ [vR 1 0, vI x1] [vI w37, vI w36, vR 1 0, vI x1, vR 16 (is0 + 0)] := rfl
theorem t_X1_readBell_43 {G : Nat → zH → List zAV → List zAV → Option zH} (es : List zEnt) (σ : zH) (x1 : Int32)   : zev cc_X1_readBell G 9 krV (zE 43 (.aload_n 0) 1 :: es) σ [vR 1 0, vI x1] [] = zev cc_X1_readBell G 9 krV es σ [vR 1 0, vI x1] [vR 1 0] := rfl
theorem t_X1_readBell_47 {G : Nat → zH → List zAV → List zAV → Option zH} (es : List zEnt) (σ : zH) (x1 : Int32) (is0 : Nat)  (w52 : Int32) (w53 : Int32) : zev cc_X1_readBell G 9 krV (zEf 47 (.getfield 115) 3 0 7 62 (1, 17, 0) :: zE 50 (.iload_n 1) 1 :: zE 51 (.aload_n 0) 1 :: zEk 52 (.iconst 1) 1 w52 :: zEk 53 (.bipush 9) 2 w53 :: es) σ [vR 1 0, vI x1] [vR 0 is0] = zev cc_X1_readBell G 9 krV es σ [vR 1 0, vI x1] [vI w53, vI w52, vR 1 0, vI x1, vR 17 (is0 + 0)] := rfl
theorem t_X1_readBell_59 {G : Nat → zH → List zAV → List zAV → Option zH} (es : List zEnt) (σ : zH) (x1 : Int32)   : zev cc_X1_readBell G 9 krV (zE 59 (.aload_n 0) 1 :: es) σ [vR 1 0, vI x1] [] = zev cc_X1_readBell G 9 krV es σ [vR 1 0, vI x1] [vR 1 0] := rfl
theorem t_X1_readBell_63 {G : Nat → zH → List zAV → List zAV → Option zH} (es : List zEnt) (σ : zH) (x1 : Int32) (is0 : Nat) (y0 : zAV) (w64 : Int32) : zev cc_X1_readBell G 9 krV (zE 63 (.iload_n 1) 1 :: zEk 64 (.iconst 1) 1 w64 :: zE 65 .iadd 1 :: es) σ [y0, vI x1] [vR 0 is0] = zev cc_X1_readBell G 9 krV es σ [y0, vI x1] [vI (x1 + w64), vR 0 is0] := rfl
noncomputable def j_X1_readBell_20  (σ : zH) (x1 : Int32) (xs1 : Int32) : Option zH :=
  (d_X1_isOneTooMany σ xs1).bind fun p1 =>
  if p1.2 = 0 then
    ix (p1.1.1 1 0 1) 9 fun j2 =>
    (d_X1_number p1.1 (0 : Int32) (95 : Int32)).bind fun p3 =>
    ix x1 8 fun j11 =>
    zlet (uI p3.1 16 (j2 + 0) j11 p3.2) fun σ4 =>
    ix (σ4.1 1 0 1) 9 fun j5 =>
    (d_X1_number σ4 (1 : Int32) (9 : Int32)).bind fun p6 =>
    ix x1 8 fun j10 =>
    zlet (uI p6.1 17 (j5 + 0) j10 p6.2) fun σ7 =>
    ix (σ7.1 1 0 1) 9 fun j8 =>
    zlet (uI σ7 0 j8 5 (x1 + (1 : Int32))) fun σ9 =>
    some σ9
  else
    some p1.1
theorem e_X1_readBell_20  (σ : zH) (x1 : Int32) (xs1 : Int32)  : j_X1_readBell_20 σ x1 xs1 = zin cc_X1_readBell (fun t => none) 9 krV b_X1_readBell 20 σ [vR 1 0, vI x1] [vI xs1, vR 1 0] := by
  unfold j_X1_readBell_20
  refine Eq.symm ((zin_b (es := q_X1_readBell_20) rfl).trans ?_)
  refine (x_callV rfl rfl rfl rfl).trans ((cl_X1_readBell_X1_isOneTooMany _ _ _).trans ((gr_X1_isOneTooMany _ _ _).trans (pbd fun _ => ?_)))
  refine x_if.trans (pif_eq ?_ ?_)
  · refine (zrun_b (es := q_X1_readBell_27) rfl rfl).trans ?_
    refine (t_X1_readBell_27 _ _ _).trans ?_
    refine x_gf3.trans (pix fun _ => ?_)
    refine (t_X1_readBell_31 _ _ _ _ _ _).trans ?_
    refine (x_callV rfl rfl rfl rfl).trans ((cl_X1_readBell_X1_number _ _ _).trans ((gr_X1_number _ _ _ _).trans (pbd fun _ => ?_)))
    refine (x_iast (N := 8) rfl rfl).trans (pix fun _ => plt fun _ => ?_)
    refine (t_X1_readBell_43 _ _ _).trans ?_
    refine x_gf3.trans (pix fun _ => ?_)
    refine (t_X1_readBell_47 _ _ _ _ _ _).trans ?_
    refine (x_callV rfl rfl rfl rfl).trans ((cl_X1_readBell_X1_number _ _ _).trans ((gr_X1_number _ _ _ _).trans (pbd fun _ => ?_)))
    refine (x_iast (N := 8) rfl rfl).trans (pix fun _ => plt fun _ => ?_)
    refine (t_X1_readBell_59 _ _ _).trans ?_
    refine x_gf3.trans (pix fun _ => ?_)
    refine (t_X1_readBell_63 _ _ _ _ _ _).trans ?_
    refine x_pf0.trans (plt fun _ => ?_)
    exact x_vret
  · exact x_vret
theorem s_X1_readBell_20 {X : zX} (hX : zHX X)   : ∀ σ L st r, gl_X1_readBell_20 j_X1_readBell_20 σ L st = some r → zGW X 11 krV 20 σ L st r := by
  intro σ L st r h
  unfold gl_X1_readBell_20 at h
  split at h
  · exact zin_ok (hy_X1_readBell hX) bk_X1_readBell (fun t f hf => by
    cases hf) ((e_X1_readBell_20 _ _ _).symm.trans h)
  · cases h
noncomputable def d_X1_readBell (σ : zH)  : Option zH :=
  ix (σ.1 1 0 1) 9 fun j1 =>
  if (σ.1 0 j1 5) < (8 : Int32) then
    j_X1_readBell_20 σ (σ.1 0 j1 5) (0 : Int32)
  else
    j_X1_readBell_20 σ (σ.1 0 j1 5) (1 : Int32)
theorem e_X1_readBell (σ : zH)  : d_X1_readBell σ = zin cc_X1_readBell (fun t => if t = 20 then some (gl_X1_readBell_20 j_X1_readBell_20) else none) 9 krV b_X1_readBell 0 σ [vR 1 0, vU] [] := by
  unfold d_X1_readBell
  refine Eq.symm ((zin_b (es := q_X1_readBell_0) rfl).trans ?_)
  refine (t_X1_readBell_0 _ _ _).trans ?_
  refine x_gf3.trans (pix fun _ => ?_)
  refine (t_X1_readBell_4 _ _ _ _ _).trans ?_
  refine x_icmp.trans (pif_lt ?_ ?_)
  · refine (zrun_b (es := q_X1_readBell_19) rfl rfl).trans ?_
    refine (t_X1_readBell_19 _ _ _ _).trans ?_
    refine x_cut.trans ?_
    exact (zrun_c rfl).trans (glr_X1_readBell_20 _ _ _ _)
  · refine (t_X1_readBell_15 _ _ _ _).trans ?_
    refine x_goto.trans ?_
    exact (zrun_c rfl).trans (glr_X1_readBell_20 _ _ _ _)
noncomputable def g_X1_readBell {ρ : Type} (σ : zH) (av : List zAV) (q : zH → zAV → Option ρ) : Option ρ := match av with
  | [.inr (.inr (.inl (1, 0)))] => (d_X1_readBell σ).bind fun σ => q σ vU
  | _ => none
theorem gr_X1_readBell {ρ : Type} (σ : zH)  (q : zH → zAV → Option ρ) : g_X1_readBell σ [vR 1 0] q = (d_X1_readBell σ).bind fun σ => q σ vU := rfl
theorem c_X1_readBell {ρ : Type} {X : zX} (hX : zHX X) {σ : zH} {av : List zAV} {q : zH → zAV → Option ρ} {r : ρ} (h : g_X1_readBell σ av q = some r) (hv : ∀ a ∈ av, zval X a) : zcon X 11 σ av q r := by
  unfold g_X1_readBell at h
  split at h
  · exact zcon_V (n := 11) (ml := 2) (rc := 9) (st := 0) (kd := 1) (np := 0) (by decide +kernel) rfl ⟨_, _, rfl, rfl⟩ (Nat.le_of_ble_eq_true rfl) hv h (fun y h1 => (zin_ok (hy_X1_readBell hX) bk_X1_readBell (fun t f hf => by
      by_cases e20 : t = 20
      · rw [if_pos e20] at hf; subst e20; cases hf; exact (s_X1_readBell_20 hX)
      rw [if_neg e20] at hf
      cases hf) ((e_X1_readBell _).symm.trans h1)))
  · cases h
/-! SleepWaves$CampReader.readDuty()V -/
def q_X1_readDuty_16 : List zEnt := zEa 16 (.goto 4) 3 20 :: []
def q_X1_readDuty_15 : List zEnt := zEk 15 (.iconst 1) 1 1 :: q_X1_readDuty_16
def q_X1_readDuty_12 : List zEnt := zEa 12 (.if_icmp .lt 7) 3 19 :: q_X1_readDuty_15
def q_X1_readDuty_4 : List zEnt := zEf 4 (.getfield 118) 3 0 8 65 (0, 0, 0) :: zE 7 (.istore_n 1) 1 :: zE 8 (.aload_n 0) 1 :: zE 9 (.iload_n 1) 1 :: zEk 10 (.bipush 8) 2 8 :: q_X1_readDuty_12
def q_X1_readDuty_1 : List zEnt := zEf 1 (.getfield 15) 3 1 1 18 (3, 0, 0) :: q_X1_readDuty_4
def q_X1_readDuty_0 : List zEnt := zE 0 (.aload_n 0) 1 :: q_X1_readDuty_1
def q_X1_readDuty_19 : List zEnt := zEk 19 (.iconst 0) 1 0 :: [zE 20 .nop 0]
def q_X1_readDuty_26 : List zEnt := zE 26 .return_ 1 :: []
def q_X1_readDuty_23 : List zEnt := zEa 23 (.ifCond .eq 4) 3 27 :: q_X1_readDuty_26
def q_X1_readDuty_20 : List zEnt := zEc 20 (.invokevirtual 88) 3 9 2 11 0 :: q_X1_readDuty_23
def q_X1_readDuty_100 : List zEnt := zE 100 .return_ 1 :: []
def q_X1_readDuty_97 : List zEnt := zEf 97 (.putfield 118) 3 0 8 65 (0, 0, 0) :: q_X1_readDuty_100
def q_X1_readDuty_94 : List zEnt := zE 94 (.iload_n 1) 1 :: zEk 95 (.iconst 1) 1 1 :: zE 96 .iadd 1 :: q_X1_readDuty_97
def q_X1_readDuty_91 : List zEnt := zEf 91 (.getfield 15) 3 1 1 18 (3, 0, 0) :: q_X1_readDuty_94
def q_X1_readDuty_90 : List zEnt := zE 90 (.aload_n 0) 1 :: q_X1_readDuty_91
def q_X1_readDuty_89 : List zEnt := zE 89 .iastore 1 :: q_X1_readDuty_90
def q_X1_readDuty_86 : List zEnt := zEc 86 (.invokevirtual 96) 3 14 3 13 0 :: q_X1_readDuty_89
def q_X1_readDuty_84 : List zEnt := zEk 84 (.bipush 95) 2 95 :: q_X1_readDuty_86
def q_X1_readDuty_83 : List zEnt := zE 83 .iaload 1 :: q_X1_readDuty_84
def q_X1_readDuty_79 : List zEnt := zEf 79 (.getfield 124) 3 0 10 70 (1, 19, 0) :: zE 82 (.iload_n 1) 1 :: q_X1_readDuty_83
def q_X1_readDuty_76 : List zEnt := zEf 76 (.getfield 15) 3 1 1 18 (3, 0, 0) :: q_X1_readDuty_79
def q_X1_readDuty_70 : List zEnt := zEf 70 (.getfield 127) 3 0 11 72 (1, 20, 0) :: zE 73 (.iload_n 1) 1 :: zE 74 (.aload_n 0) 1 :: zE 75 (.aload_n 0) 1 :: q_X1_readDuty_76
def q_X1_readDuty_67 : List zEnt := zEf 67 (.getfield 15) 3 1 1 18 (3, 0, 0) :: q_X1_readDuty_70
def q_X1_readDuty_66 : List zEnt := zE 66 (.aload_n 0) 1 :: q_X1_readDuty_67
def q_X1_readDuty_65 : List zEnt := zE 65 .iastore 1 :: q_X1_readDuty_66
def q_X1_readDuty_62 : List zEnt := zEc 62 (.invokevirtual 96) 3 14 3 13 0 :: q_X1_readDuty_65
def q_X1_readDuty_54 : List zEnt := zEf 54 (.getfield 124) 3 0 10 70 (1, 19, 0) :: zE 57 (.iload_n 1) 1 :: zE 58 (.aload_n 0) 1 :: zEk 59 (.iconst 0) 1 0 :: zEk 60 (.bipush 95) 2 95 :: q_X1_readDuty_62
def q_X1_readDuty_51 : List zEnt := zEf 51 (.getfield 15) 3 1 1 18 (3, 0, 0) :: q_X1_readDuty_54
def q_X1_readDuty_50 : List zEnt := zE 50 (.aload_n 0) 1 :: q_X1_readDuty_51
def q_X1_readDuty_49 : List zEnt := zE 49 .iastore 1 :: q_X1_readDuty_50
def q_X1_readDuty_46 : List zEnt := zEc 46 (.invokevirtual 96) 3 14 3 13 0 :: q_X1_readDuty_49
def q_X1_readDuty_41 : List zEnt := zEf 41 (.getfield 85) 3 0 0 34 (0, 0, 0) :: zEk 44 (.iconst 1) 1 1 :: zE 45 .isub 1 :: q_X1_readDuty_46
def q_X1_readDuty_38 : List zEnt := zEf 38 (.getfield 15) 3 1 1 18 (3, 0, 0) :: q_X1_readDuty_41
def q_X1_readDuty_31 : List zEnt := zEf 31 (.getfield 121) 3 0 9 68 (1, 18, 0) :: zE 34 (.iload_n 1) 1 :: zE 35 (.aload_n 0) 1 :: zEk 36 (.iconst 0) 1 0 :: zE 37 (.aload_n 0) 1 :: q_X1_readDuty_38
def q_X1_readDuty_28 : List zEnt := zEf 28 (.getfield 15) 3 1 1 18 (3, 0, 0) :: q_X1_readDuty_31
def q_X1_readDuty_27 : List zEnt := zE 27 (.aload_n 0) 1 :: q_X1_readDuty_28
def b_X1_readDuty : List (Nat × List zEnt) := [(0, q_X1_readDuty_0), (19, q_X1_readDuty_19), (20, q_X1_readDuty_20), (27, q_X1_readDuty_27)]
theorem bk_X1_readDuty : zchB 12 b_X1_readDuty = true := by decide +kernel
noncomputable def cc_X1_readDuty {ρ : Type} : Nat → zH → List zAV → (zH → zAV → Option ρ) → Option ρ := fun n σ av q => if n = 9 then g_X1_isOneTooMany σ av q else if n = 14 then g_X1_number σ av q else none
theorem cs_X1_readDuty {ρ : Type} {X : zX} (hX : zHX X) : zCS X (cc_X1_readDuty (ρ := ρ)) := by
  intro n σ av q r h hv
  unfold cc_X1_readDuty at h
  by_cases e_X1_isOneTooMany : n = 9
  · rw [if_pos e_X1_isOneTooMany] at h
    subst e_X1_isOneTooMany
    exact c_X1_isOneTooMany hX h hv
  rw [if_neg e_X1_isOneTooMany] at h
  by_cases e_X1_number : n = 14
  · rw [if_pos e_X1_number] at h
    subst e_X1_number
    exact c_X1_number hX h hv
  rw [if_neg e_X1_number] at h
  cases h
theorem cl_X1_readDuty_X1_isOneTooMany {ρ : Type} (σ : zH) (av : List zAV) (q : zH → zAV → Option ρ) : cc_X1_readDuty 9 σ av q = g_X1_isOneTooMany σ av q := rfl
theorem cl_X1_readDuty_X1_number {ρ : Type} (σ : zH) (av : List zAV) (q : zH → zAV → Option ρ) : cc_X1_readDuty 14 σ av q = g_X1_number σ av q := rfl
theorem hy_X1_readDuty {ρ : Type} {X : zX} (hX : zHX X) : zHY X 12 (cc_X1_readDuty (ρ := ρ)) := zHX.hY hX (cs_X1_readDuty hX) (zmok_all 12 (by decide))
def gl_X1_readDuty_20 {ρ : Type} (f : zH → Int32 → Int32 → Option ρ) (σ : zH) (L st : List zAV) : Option ρ := match L, st with
  | [.inr (.inr (.inl (1, 0))), .inl x1], [.inl xs1, .inr (.inr (.inl (1, 0)))] => f σ x1 xs1
  | _, _ => none
theorem glr_X1_readDuty_20 {ρ : Type} (f : zH → Int32 → Int32 → Option ρ) (σ : zH) (x1 : Int32) (xs1 : Int32)  : gl_X1_readDuty_20 f σ [vR 1 0, vI x1] [vI xs1, vR 1 0] = f σ x1 xs1 := rfl
theorem t_X1_readDuty_0 {G : Nat → zH → List zAV → List zAV → Option zH} (es : List zEnt) (σ : zH)  (y1 : zAV)  : zev cc_X1_readDuty G 9 krV (zE 0 (.aload_n 0) 1 :: es) σ [vR 1 0, y1] [] = zev cc_X1_readDuty G 9 krV es σ [vR 1 0, y1] [vR 1 0] := rfl
theorem t_X1_readDuty_4 {G : Nat → zH → List zAV → List zAV → Option zH} (es : List zEnt) (σ : zH) (is0 : Nat) (y1 : zAV) (w10 : Int32) : zev cc_X1_readDuty G 9 krV (zEf 4 (.getfield 118) 3 0 8 65 (0, 0, 0) :: zE 7 (.istore_n 1) 1 :: zE 8 (.aload_n 0) 1 :: zE 9 (.iload_n 1) 1 :: zEk 10 (.bipush 8) 2 w10 :: es) σ [vR 1 0, y1] [vR 0 is0] = zev cc_X1_readDuty G 9 krV es σ [vR 1 0, vI (σ.1 0 is0 8)] [vI w10, vI (σ.1 0 is0 8), vR 1 0] := rfl
theorem t_X1_readDuty_15 {G : Nat → zH → List zAV → List zAV → Option zH} (es : List zEnt) (σ : zH) (x1 : Int32)  (w15 : Int32) : zev cc_X1_readDuty G 9 krV (zEk 15 (.iconst 1) 1 w15 :: es) σ [vR 1 0, vI x1] [vR 1 0] = zev cc_X1_readDuty G 9 krV es σ [vR 1 0, vI x1] [vI w15, vR 1 0] := rfl
theorem t_X1_readDuty_19 {G : Nat → zH → List zAV → List zAV → Option zH} (es : List zEnt) (σ : zH) (x1 : Int32)  (w19 : Int32) : zev cc_X1_readDuty G 9 krV (zEk 19 (.iconst 0) 1 w19 :: es) σ [vR 1 0, vI x1] [vR 1 0] = zev cc_X1_readDuty G 9 krV es σ [vR 1 0, vI x1] [vI w19, vR 1 0] := rfl
theorem t_X1_readDuty_27 {G : Nat → zH → List zAV → List zAV → Option zH} (es : List zEnt) (σ : zH) (x1 : Int32)   : zev cc_X1_readDuty G 9 krV (zE 27 (.aload_n 0) 1 :: es) σ [vR 1 0, vI x1] [] = zev cc_X1_readDuty G 9 krV es σ [vR 1 0, vI x1] [vR 1 0] := rfl
theorem t_X1_readDuty_31 {G : Nat → zH → List zAV → List zAV → Option zH} (es : List zEnt) (σ : zH) (x1 : Int32) (is0 : Nat)  (w36 : Int32) : zev cc_X1_readDuty G 9 krV (zEf 31 (.getfield 121) 3 0 9 68 (1, 18, 0) :: zE 34 (.iload_n 1) 1 :: zE 35 (.aload_n 0) 1 :: zEk 36 (.iconst 0) 1 w36 :: zE 37 (.aload_n 0) 1 :: es) σ [vR 1 0, vI x1] [vR 0 is0] = zev cc_X1_readDuty G 9 krV es σ [vR 1 0, vI x1] [vR 1 0, vI w36, vR 1 0, vI x1, vR 18 (is0 + 0)] := rfl
theorem t_X1_readDuty_41 {G : Nat → zH → List zAV → List zAV → Option zH} (es : List zEnt) (σ : zH) (x1 : Int32) (is0 : Nat) (xs1 : Int32) (xs3 : Int32) (is4 : Nat)  (w44 : Int32) : zev cc_X1_readDuty G 9 krV (zEf 41 (.getfield 85) 3 0 0 34 (0, 0, 0) :: zEk 44 (.iconst 1) 1 w44 :: zE 45 .isub 1 :: es) σ [vR 1 0, vI x1] [vR 0 is4, vI xs3, vR 1 0, vI xs1, vR 18 is0] = zev cc_X1_readDuty G 9 krV es σ [vR 1 0, vI x1] [vI ((σ.1 0 is4 0) - w44), vI xs3, vR 1 0, vI xs1, vR 18 is0] := rfl
theorem t_X1_readDuty_50 {G : Nat → zH → List zAV → List zAV → Option zH} (es : List zEnt) (σ : zH) (x1 : Int32)   : zev cc_X1_readDuty G 9 krV (zE 50 (.aload_n 0) 1 :: es) σ [vR 1 0, vI x1] [] = zev cc_X1_readDuty G 9 krV es σ [vR 1 0, vI x1] [vR 1 0] := rfl
theorem t_X1_readDuty_54 {G : Nat → zH → List zAV → List zAV → Option zH} (es : List zEnt) (σ : zH) (x1 : Int32) (is0 : Nat)  (w59 : Int32) (w60 : Int32) : zev cc_X1_readDuty G 9 krV (zEf 54 (.getfield 124) 3 0 10 70 (1, 19, 0) :: zE 57 (.iload_n 1) 1 :: zE 58 (.aload_n 0) 1 :: zEk 59 (.iconst 0) 1 w59 :: zEk 60 (.bipush 95) 2 w60 :: es) σ [vR 1 0, vI x1] [vR 0 is0] = zev cc_X1_readDuty G 9 krV es σ [vR 1 0, vI x1] [vI w60, vI w59, vR 1 0, vI x1, vR 19 (is0 + 0)] := rfl
theorem t_X1_readDuty_66 {G : Nat → zH → List zAV → List zAV → Option zH} (es : List zEnt) (σ : zH) (x1 : Int32)   : zev cc_X1_readDuty G 9 krV (zE 66 (.aload_n 0) 1 :: es) σ [vR 1 0, vI x1] [] = zev cc_X1_readDuty G 9 krV es σ [vR 1 0, vI x1] [vR 1 0] := rfl
theorem t_X1_readDuty_70 {G : Nat → zH → List zAV → List zAV → Option zH} (es : List zEnt) (σ : zH) (x1 : Int32) (is0 : Nat)   : zev cc_X1_readDuty G 9 krV (zEf 70 (.getfield 127) 3 0 11 72 (1, 20, 0) :: zE 73 (.iload_n 1) 1 :: zE 74 (.aload_n 0) 1 :: zE 75 (.aload_n 0) 1 :: es) σ [vR 1 0, vI x1] [vR 0 is0] = zev cc_X1_readDuty G 9 krV es σ [vR 1 0, vI x1] [vR 1 0, vR 1 0, vI x1, vR 20 (is0 + 0)] := rfl
theorem t_X1_readDuty_79 {G : Nat → zH → List zAV → List zAV → Option zH} (es : List zEnt) (σ : zH) (x1 : Int32) (is0 : Nat) (xs1 : Int32) (is3 : Nat)   : zev cc_X1_readDuty G 9 krV (zEf 79 (.getfield 124) 3 0 10 70 (1, 19, 0) :: zE 82 (.iload_n 1) 1 :: es) σ [vR 1 0, vI x1] [vR 0 is3, vR 1 0, vI xs1, vR 20 is0] = zev cc_X1_readDuty G 9 krV es σ [vR 1 0, vI x1] [vI x1, vR 19 (is3 + 0), vR 1 0, vI xs1, vR 20 is0] := rfl
theorem t_X1_readDuty_84 {G : Nat → zH → List zAV → List zAV → Option zH} (es : List zEnt) (σ : zH) (x1 : Int32) (is0 : Nat) (xs1 : Int32) (xs3 : Int32)  (w84 : Int32) : zev cc_X1_readDuty G 9 krV (zEk 84 (.bipush 95) 2 w84 :: es) σ [vR 1 0, vI x1] [vI xs3, vR 1 0, vI xs1, vR 20 is0] = zev cc_X1_readDuty G 9 krV es σ [vR 1 0, vI x1] [vI w84, vI xs3, vR 1 0, vI xs1, vR 20 is0] := rfl
theorem t_X1_readDuty_90 {G : Nat → zH → List zAV → List zAV → Option zH} (es : List zEnt) (σ : zH) (x1 : Int32)   : zev cc_X1_readDuty G 9 krV (zE 90 (.aload_n 0) 1 :: es) σ [vR 1 0, vI x1] [] = zev cc_X1_readDuty G 9 krV es σ [vR 1 0, vI x1] [vR 1 0] := rfl
theorem t_X1_readDuty_94 {G : Nat → zH → List zAV → List zAV → Option zH} (es : List zEnt) (σ : zH) (x1 : Int32) (is0 : Nat) (y0 : zAV) (w95 : Int32) : zev cc_X1_readDuty G 9 krV (zE 94 (.iload_n 1) 1 :: zEk 95 (.iconst 1) 1 w95 :: zE 96 .iadd 1 :: es) σ [y0, vI x1] [vR 0 is0] = zev cc_X1_readDuty G 9 krV es σ [y0, vI x1] [vI (x1 + w95), vR 0 is0] := rfl
noncomputable def j_X1_readDuty_20  (σ : zH) (x1 : Int32) (xs1 : Int32) : Option zH :=
  (d_X1_isOneTooMany σ xs1).bind fun p1 =>
  if p1.2 = 0 then
    ix (p1.1.1 1 0 1) 9 fun j2 =>
    ix (p1.1.1 1 0 1) 9 fun j3 =>
    (d_X1_number p1.1 (0 : Int32) ((p1.1.1 0 j3 0) - (1 : Int32))).bind fun p4 =>
    ix x1 8 fun j18 =>
    zlet (uI p4.1 18 (j2 + 0) j18 p4.2) fun σ5 =>
    ix (σ5.1 1 0 1) 9 fun j6 =>
    (d_X1_number σ5 (0 : Int32) (95 : Int32)).bind fun p7 =>
    ix x1 8 fun j17 =>
    zlet (uI p7.1 19 (j6 + 0) j17 p7.2) fun σ8 =>
    ix (σ8.1 1 0 1) 9 fun j9 =>
    ix (σ8.1 1 0 1) 9 fun j10 =>
    ix x1 8 fun j11 =>
    (d_X1_number σ8 (σ8.1 19 (j10 + 0) j11) (95 : Int32)).bind fun p12 =>
    ix x1 8 fun j16 =>
    zlet (uI p12.1 20 (j9 + 0) j16 p12.2) fun σ13 =>
    ix (σ13.1 1 0 1) 9 fun j14 =>
    zlet (uI σ13 0 j14 8 (x1 + (1 : Int32))) fun σ15 =>
    some σ15
  else
    some p1.1
theorem e_X1_readDuty_20  (σ : zH) (x1 : Int32) (xs1 : Int32)  : j_X1_readDuty_20 σ x1 xs1 = zin cc_X1_readDuty (fun t => none) 9 krV b_X1_readDuty 20 σ [vR 1 0, vI x1] [vI xs1, vR 1 0] := by
  unfold j_X1_readDuty_20
  refine Eq.symm ((zin_b (es := q_X1_readDuty_20) rfl).trans ?_)
  refine (x_callV rfl rfl rfl rfl).trans ((cl_X1_readDuty_X1_isOneTooMany _ _ _).trans ((gr_X1_isOneTooMany _ _ _).trans (pbd fun _ => ?_)))
  refine x_if.trans (pif_eq ?_ ?_)
  · refine (zrun_b (es := q_X1_readDuty_27) rfl rfl).trans ?_
    refine (t_X1_readDuty_27 _ _ _).trans ?_
    refine x_gf3.trans (pix fun _ => ?_)
    refine (t_X1_readDuty_31 _ _ _ _ _).trans ?_
    refine x_gf3.trans (pix fun _ => ?_)
    refine (t_X1_readDuty_41 _ _ _ _ _ _ _ _).trans ?_
    refine (x_callV rfl rfl rfl rfl).trans ((cl_X1_readDuty_X1_number _ _ _).trans ((gr_X1_number _ _ _ _).trans (pbd fun _ => ?_)))
    refine (x_iast (N := 8) rfl rfl).trans (pix fun _ => plt fun _ => ?_)
    refine (t_X1_readDuty_50 _ _ _).trans ?_
    refine x_gf3.trans (pix fun _ => ?_)
    refine (t_X1_readDuty_54 _ _ _ _ _ _).trans ?_
    refine (x_callV rfl rfl rfl rfl).trans ((cl_X1_readDuty_X1_number _ _ _).trans ((gr_X1_number _ _ _ _).trans (pbd fun _ => ?_)))
    refine (x_iast (N := 8) rfl rfl).trans (pix fun _ => plt fun _ => ?_)
    refine (t_X1_readDuty_66 _ _ _).trans ?_
    refine x_gf3.trans (pix fun _ => ?_)
    refine (t_X1_readDuty_70 _ _ _ _).trans ?_
    refine x_gf3.trans (pix fun _ => ?_)
    refine (t_X1_readDuty_79 _ _ _ _ _ _).trans ?_
    refine (x_iald (N := 8) rfl rfl).trans (pix fun _ => ?_)
    refine (t_X1_readDuty_84 _ _ _ _ _ _ _).trans ?_
    refine (x_callV rfl rfl rfl rfl).trans ((cl_X1_readDuty_X1_number _ _ _).trans ((gr_X1_number _ _ _ _).trans (pbd fun _ => ?_)))
    refine (x_iast (N := 8) rfl rfl).trans (pix fun _ => plt fun _ => ?_)
    refine (t_X1_readDuty_90 _ _ _).trans ?_
    refine x_gf3.trans (pix fun _ => ?_)
    refine (t_X1_readDuty_94 _ _ _ _ _ _).trans ?_
    refine x_pf0.trans (plt fun _ => ?_)
    exact x_vret
  · exact x_vret
theorem s_X1_readDuty_20 {X : zX} (hX : zHX X)   : ∀ σ L st r, gl_X1_readDuty_20 j_X1_readDuty_20 σ L st = some r → zGW X 12 krV 20 σ L st r := by
  intro σ L st r h
  unfold gl_X1_readDuty_20 at h
  split at h
  · exact zin_ok (hy_X1_readDuty hX) bk_X1_readDuty (fun t f hf => by
    cases hf) ((e_X1_readDuty_20 _ _ _).symm.trans h)
  · cases h
noncomputable def d_X1_readDuty (σ : zH)  : Option zH :=
  ix (σ.1 1 0 1) 9 fun j1 =>
  if (σ.1 0 j1 8) < (8 : Int32) then
    j_X1_readDuty_20 σ (σ.1 0 j1 8) (0 : Int32)
  else
    j_X1_readDuty_20 σ (σ.1 0 j1 8) (1 : Int32)
theorem e_X1_readDuty (σ : zH)  : d_X1_readDuty σ = zin cc_X1_readDuty (fun t => if t = 20 then some (gl_X1_readDuty_20 j_X1_readDuty_20) else none) 9 krV b_X1_readDuty 0 σ [vR 1 0, vU] [] := by
  unfold d_X1_readDuty
  refine Eq.symm ((zin_b (es := q_X1_readDuty_0) rfl).trans ?_)
  refine (t_X1_readDuty_0 _ _ _).trans ?_
  refine x_gf3.trans (pix fun _ => ?_)
  refine (t_X1_readDuty_4 _ _ _ _ _).trans ?_
  refine x_icmp.trans (pif_lt ?_ ?_)
  · refine (zrun_b (es := q_X1_readDuty_19) rfl rfl).trans ?_
    refine (t_X1_readDuty_19 _ _ _ _).trans ?_
    refine x_cut.trans ?_
    exact (zrun_c rfl).trans (glr_X1_readDuty_20 _ _ _ _)
  · refine (t_X1_readDuty_15 _ _ _ _).trans ?_
    refine x_goto.trans ?_
    exact (zrun_c rfl).trans (glr_X1_readDuty_20 _ _ _ _)
noncomputable def g_X1_readDuty {ρ : Type} (σ : zH) (av : List zAV) (q : zH → zAV → Option ρ) : Option ρ := match av with
  | [.inr (.inr (.inl (1, 0)))] => (d_X1_readDuty σ).bind fun σ => q σ vU
  | _ => none
theorem gr_X1_readDuty {ρ : Type} (σ : zH)  (q : zH → zAV → Option ρ) : g_X1_readDuty σ [vR 1 0] q = (d_X1_readDuty σ).bind fun σ => q σ vU := rfl
theorem c_X1_readDuty {ρ : Type} {X : zX} (hX : zHX X) {σ : zH} {av : List zAV} {q : zH → zAV → Option ρ} {r : ρ} (h : g_X1_readDuty σ av q = some r) (hv : ∀ a ∈ av, zval X a) : zcon X 12 σ av q r := by
  unfold g_X1_readDuty at h
  split at h
  · exact zcon_V (n := 12) (ml := 2) (rc := 9) (st := 0) (kd := 1) (np := 0) (by decide +kernel) rfl ⟨_, _, rfl, rfl⟩ (Nat.le_of_ble_eq_true rfl) hv h (fun y h1 => (zin_ok (hy_X1_readDuty hX) bk_X1_readDuty (fun t f hf => by
      by_cases e20 : t = 20
      · rw [if_pos e20] at hf; subst e20; cases hf; exact (s_X1_readDuty_20 hX)
      rw [if_neg e20] at hf
      cases hf) ((e_X1_readDuty _).symm.trans h1)))
  · cases h
