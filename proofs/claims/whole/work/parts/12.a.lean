/-! SleepWaves$Camp.menOf(I)I -/
def q_X0_menOf_0 : List zEnt := zEk 0 (.iconst 0) 1 0 :: zE 1 (.istore_n 2) 1 :: zEk 2 (.iconst 0) 1 0 :: zE 3 (.istore_n 3) 1 :: [zE 4 .nop 0]
def q_X0_menOf_32 : List zEnt := zEa 32 (.goto (-28)) 3 4 :: []
def q_X0_menOf_29 : List zEnt := zEk 29 (.iinc 3 1) 3 1 :: q_X0_menOf_32
def q_X0_menOf_27 : List zEnt := zE 27 .iadd 1 :: zE 28 (.istore_n 2) 1 :: q_X0_menOf_29
def q_X0_menOf_26 : List zEnt := zE 26 .iaload 1 :: q_X0_menOf_27
def q_X0_menOf_20 : List zEnt := zE 20 (.iload_n 2) 1 :: zE 21 (.aload_n 0) 1 :: zEf 22 (.getfield 9) 3 0 1 235 (1, 12, 0) :: zE 25 (.iload_n 3) 1 :: q_X0_menOf_26
def q_X0_menOf_17 : List zEnt := zEa 17 (.ifCond .eq 12) 3 29 :: q_X0_menOf_20
def q_X0_menOf_12 : List zEnt := zE 12 (.iload_n 1) 1 :: zE 13 (.iload_n 3) 1 :: zE 14 .ishr 1 :: zEk 15 (.iconst 1) 1 1 :: zE 16 .iand 1 :: q_X0_menOf_17
def q_X0_menOf_9 : List zEnt := zEa 9 (.if_icmp .ge 26) 3 35 :: q_X0_menOf_12
def q_X0_menOf_4 : List zEnt := zE 4 (.iload_n 3) 1 :: zE 5 (.aload_n 0) 1 :: zEf 6 (.getfield 39) 3 0 0 229 (0, 0, 0) :: q_X0_menOf_9
def q_X0_menOf_36 : List zEnt := zE 36 .ireturn 1 :: []
def q_X0_menOf_35 : List zEnt := zE 35 (.iload_n 2) 1 :: q_X0_menOf_36
def b_X0_menOf : List (Nat × List zEnt) := [(0, q_X0_menOf_0), (4, q_X0_menOf_4), (29, q_X0_menOf_29), (35, q_X0_menOf_35)]
theorem bk_X0_menOf : zchB 4 b_X0_menOf = true := by decide +kernel
theorem hy_X0_menOf {ρ : Type} {X : zX} (hX : zHX X) : zHY X 4 (zc0 (ρ := ρ)) := zHX.hY hX (zc0_ok X) (by decide +kernel)
def gl_X0_menOf_4 {ρ : Type} (f : zH → Nat → Int32 → Int32 → Int32 → Option ρ) (σ : zH) (L st : List zAV) : Option ρ := match L, st with
  | [.inr (.inr (.inl (0, i0))), .inl x1, .inl x2, .inl x3], [] => f σ i0 x1 x2 x3
  | _, _ => none
theorem glr_X0_menOf_4 {ρ : Type} (f : zH → Nat → Int32 → Int32 → Int32 → Option ρ) (σ : zH) (i0 : Nat) (x1 : Int32) (x2 : Int32) (x3 : Int32)  : gl_X0_menOf_4 f σ [vR 0 i0, vI x1, vI x2, vI x3] [] = f σ i0 x1 x2 x3 := rfl
theorem t_X0_menOf_0 {G : Nat → zH → List zAV → List zAV → Option (zH × Int32)} (es : List zEnt) (σ : zH) (i0 : Nat) (x1 : Int32) (y2 : zAV) (y3 : zAV) : zev zc0 G 0 krI (zEk 0 (.iconst 0) 1 0 :: zE 1 (.istore_n 2) 1 :: zEk 2 (.iconst 0) 1 0 :: zE 3 (.istore_n 3) 1 :: es) σ [vR 0 i0, vI x1, y2, y3] [] = zev zc0 G 0 krI es σ [vR 0 i0, vI x1, vI (0 : Int32), vI (0 : Int32)] [] := rfl
theorem t_X0_menOf_4 {G : Nat → zH → List zAV → List zAV → Option (zH × Int32)} (es : List zEnt) (σ : zH) (i0 : Nat) (x1 : Int32) (x2 : Int32) (x3 : Int32)  : zev zc0 G 0 krI (zE 4 (.iload_n 3) 1 :: zE 5 (.aload_n 0) 1 :: zEf 6 (.getfield 39) 3 0 0 229 (0, 0, 0) :: es) σ [vR 0 i0, vI x1, vI x2, vI x3] [] = zev zc0 G 0 krI es σ [vR 0 i0, vI x1, vI x2, vI x3] [vI (σ.1 0 i0 0), vI x3] := rfl
theorem t_X0_menOf_12 {G : Nat → zH → List zAV → List zAV → Option (zH × Int32)} (es : List zEnt) (σ : zH) (i0 : Nat) (x1 : Int32) (x2 : Int32) (x3 : Int32)  : zev zc0 G 0 krI (zE 12 (.iload_n 1) 1 :: zE 13 (.iload_n 3) 1 :: zE 14 .ishr 1 :: zEk 15 (.iconst 1) 1 1 :: zE 16 .iand 1 :: es) σ [vR 0 i0, vI x1, vI x2, vI x3] [] = zev zc0 G 0 krI es σ [vR 0 i0, vI x1, vI x2, vI x3] [vI ((x1 >>> (x3 &&& 31)) &&& (1 : Int32))] := rfl
theorem t_X0_menOf_20 {G : Nat → zH → List zAV → List zAV → Option (zH × Int32)} (es : List zEnt) (σ : zH) (i0 : Nat) (x1 : Int32) (x2 : Int32) (x3 : Int32)  : zev zc0 G 0 krI (zE 20 (.iload_n 2) 1 :: zE 21 (.aload_n 0) 1 :: zEf 22 (.getfield 9) 3 0 1 235 (1, 12, 0) :: zE 25 (.iload_n 3) 1 :: es) σ [vR 0 i0, vI x1, vI x2, vI x3] [] = zev zc0 G 0 krI es σ [vR 0 i0, vI x1, vI x2, vI x3] [vI x3, vR 12 (i0 + 0), vI x2] := rfl
theorem t_X0_menOf_27 {G : Nat → zH → List zAV → List zAV → Option (zH × Int32)} (es : List zEnt) (σ : zH) (i0 : Nat) (x1 : Int32) (x3 : Int32) (xs0 : Int32) (xs1 : Int32) (y2 : zAV) : zev zc0 G 0 krI (zE 27 .iadd 1 :: zE 28 (.istore_n 2) 1 :: zEk 29 (.iinc 3 1) 3 1 :: es) σ [vR 0 i0, vI x1, y2, vI x3] [vI xs1, vI xs0] = zev zc0 G 0 krI es σ [vR 0 i0, vI x1, vI (xs0 + xs1), vI (x3 + (1 : Int32))] [] := rfl
theorem t_X0_menOf_29 {G : Nat → zH → List zAV → List zAV → Option (zH × Int32)} (es : List zEnt) (σ : zH) (i0 : Nat) (x1 : Int32) (x2 : Int32) (x3 : Int32)  : zev zc0 G 0 krI (zEk 29 (.iinc 3 1) 3 1 :: es) σ [vR 0 i0, vI x1, vI x2, vI x3] [] = zev zc0 G 0 krI es σ [vR 0 i0, vI x1, vI x2, vI (x3 + (1 : Int32))] [] := rfl
theorem t_X0_menOf_35 {G : Nat → zH → List zAV → List zAV → Option (zH × Int32)} (es : List zEnt) (σ : zH) (x2 : Int32) (y0 : zAV) (y1 : zAV) (y3 : zAV) : zev zc0 G 0 krI (zE 35 (.iload_n 2) 1 :: es) σ [y0, y1, vI x2, y3] [] = zev zc0 G 0 krI es σ [y0, y1, vI x2, y3] [vI x2] := rfl
noncomputable def k_X0_menOf_4  : Nat → zH → Nat → Int32 → Int32 → Int32 → Option (zH × Int32)
  | 0, _, _, _, _, _ => none
  | n + 1, σ, i0, x1, x2, x3 =>
    if x3 < (σ.1 0 i0 0) then
      if ((x1 >>> (x3 &&& 31)) &&& (1 : Int32)) = 0 then
        (k_X0_menOf_4 n) σ i0 x1 x2 (x3 + (1 : Int32))
      else
        ix x3 12 fun j1 =>
        (k_X0_menOf_4 n) σ i0 x1 (x2 + (σ.1 12 (i0 + 0) j1)) (x3 + (1 : Int32))
    else
      some (σ, x2)
theorem e_X0_menOf_4  (n : Nat) (σ : zH) (i0 : Nat) (x1 : Int32) (x2 : Int32) (x3 : Int32)  : k_X0_menOf_4 (n + 1) σ i0 x1 x2 x3 = zin zc0 (fun t => if t = 4 then some (gl_X0_menOf_4 (k_X0_menOf_4 n)) else none) 0 krI b_X0_menOf 4 σ [vR 0 i0, vI x1, vI x2, vI x3] [] := by
  rw [k_X0_menOf_4]
  exact ((zin_b rfl).trans ((t_X0_menOf_4 _ _ _ _ _ _).trans (x_icmp.trans (pif_ge ((zrun_b rfl rfl).trans ((t_X0_menOf_35 _ _ _ _ _ _).trans x_iret)) ((t_X0_menOf_12 _ _ _ _ _ _).trans (x_if.trans (pif_eq ((zrun_b rfl rfl).trans ((t_X0_menOf_29 _ _ _ _ _ _).trans (x_goto.trans ((zrun_c rfl).trans (glr_X0_menOf_4 _ _ _ _ _ _))))) ((t_X0_menOf_20 _ _ _ _ _ _).trans ((x_iald (N := 12) rfl rfl).trans (pix fun _ => (t_X0_menOf_27 _ _ _ _ _ _ _ _).trans (x_goto.trans ((zrun_c rfl).trans (glr_X0_menOf_4 _ _ _ _ _ _))))))))))))).symm
theorem s_X0_menOf_4 {X : zX} (hX : zHX X)   : ∀ n σ L st r, gl_X0_menOf_4 (k_X0_menOf_4 n) σ L st = some r → zGW X 4 krI 4 σ L st r := by
  intro n
  induction n with
  | zero =>
    intro σ L st r h
    unfold gl_X0_menOf_4 at h
    split at h <;> cases h
  | succ n ih =>
    intro σ L st r h
    unfold gl_X0_menOf_4 at h
    split at h
    · exact zin_ok (hy_X0_menOf hX) bk_X0_menOf (fun t f hf => by
      by_cases e4 : t = 4
      · rw [if_pos e4] at hf; subst e4; cases hf; exact ih
      rw [if_neg e4] at hf
      cases hf) ((e_X0_menOf_4 _ _ _ _ _ _).symm.trans h)
    · cases h
noncomputable def d_X0_menOf (σ : zH) (ia0 : Nat) (xa1 : Int32) : Option (zH × Int32) :=
  (k_X0_menOf_4 zN) σ ia0 xa1 (0 : Int32) (0 : Int32)
theorem e_X0_menOf (σ : zH) (ia0 : Nat) (xa1 : Int32) : d_X0_menOf σ ia0 xa1 = zin zc0 (fun t => if t = 4 then some (gl_X0_menOf_4 (k_X0_menOf_4 zN)) else none) 0 krI b_X0_menOf 0 σ [vR 0 ia0, vI xa1, vU, vU] [] := by
  unfold d_X0_menOf
  exact ((zin_b rfl).trans ((t_X0_menOf_0 _ _ _ _ _ _).trans (x_cut.trans ((zrun_c rfl).trans (glr_X0_menOf_4 _ _ _ _ _ _))))).symm
noncomputable def g_X0_menOf {ρ : Type} (σ : zH) (av : List zAV) (q : zH → zAV → Option ρ) : Option ρ := match av with
  | [.inr (.inr (.inl (0, ia0))), .inl xa1] => (d_X0_menOf σ ia0 xa1).bind fun p => q p.1 (vI p.2)
  | _ => none
theorem gr_X0_menOf {ρ : Type} (σ : zH) (ia0 : Nat) (xa1 : Int32) (q : zH → zAV → Option ρ) : g_X0_menOf σ [vR 0 ia0, vI xa1] q = (d_X0_menOf σ ia0 xa1).bind fun p => q p.1 (vI p.2) := rfl
theorem c_X0_menOf {ρ : Type} {X : zX} (hX : zHX X) {σ : zH} {av : List zAV} {q : zH → zAV → Option ρ} {r : ρ} (h : g_X0_menOf σ av q = some r) (hv : ∀ a ∈ av, zval X a) : zcon X 4 σ av q r := by
  unfold g_X0_menOf at h
  split at h
  · exact zcon_I (n := 4) (ml := 4) (rc := 0) (st := 0) (kd := 0) (np := 1) (by decide +kernel) (by decide) ⟨_, _, rfl, rfl⟩ (Nat.le_of_ble_eq_true rfl) hv h (fun y h1 => (zin_ok (hy_X0_menOf hX) bk_X0_menOf (fun t f hf => by
      by_cases e4 : t = 4
      · rw [if_pos e4] at hf; subst e4; cases hf; exact ((fun σ L st r h => s_X0_menOf_4 hX  zN σ L st r h))
      rw [if_neg e4] at hf
      cases hf) ((e_X0_menOf _ _ _).symm.trans h1)))
  · cases h

/-! SleepWaves$Camp.firstDuty(II)I -/
def q_X0_firstDuty_0 : List zEnt := zEk 0 (.iconst 0) 1 0 :: zE 1 (.istore_n 3) 1 :: [zE 2 .nop 0]
def q_X0_firstDuty_41 : List zEnt := zE 41 .ireturn 1 :: []
def q_X0_firstDuty_40 : List zEnt := zE 40 (.iload_n 3) 1 :: q_X0_firstDuty_41
def q_X0_firstDuty_37 : List zEnt := zEa 37 (.if_icmp .gt 5) 3 42 :: q_X0_firstDuty_40
def q_X0_firstDuty_36 : List zEnt := zE 36 .iaload 1 :: q_X0_firstDuty_37
def q_X0_firstDuty_30 : List zEnt := zE 30 (.iload_n 2) 1 :: zE 31 (.aload_n 0) 1 :: zEf 32 (.getfield 36) 3 0 11 270 (1, 20, 0) :: zE 35 (.iload_n 3) 1 :: q_X0_firstDuty_36
def q_X0_firstDuty_27 : List zEnt := zEa 27 (.if_icmp .gt 15) 3 42 :: q_X0_firstDuty_30
def q_X0_firstDuty_26 : List zEnt := zE 26 (.iload_n 2) 1 :: q_X0_firstDuty_27
def q_X0_firstDuty_25 : List zEnt := zE 25 .iaload 1 :: q_X0_firstDuty_26
def q_X0_firstDuty_20 : List zEnt := zE 20 (.aload_n 0) 1 :: zEf 21 (.getfield 33) 3 0 10 268 (1, 19, 0) :: zE 24 (.iload_n 3) 1 :: q_X0_firstDuty_25
def q_X0_firstDuty_17 : List zEnt := zEa 17 (.if_icmp .ne 25) 3 42 :: q_X0_firstDuty_20
def q_X0_firstDuty_16 : List zEnt := zE 16 (.iload_n 1) 1 :: q_X0_firstDuty_17
def q_X0_firstDuty_15 : List zEnt := zE 15 .iaload 1 :: q_X0_firstDuty_16
def q_X0_firstDuty_10 : List zEnt := zE 10 (.aload_n 0) 1 :: zEf 11 (.getfield 30) 3 0 9 266 (1, 18, 0) :: zE 14 (.iload_n 3) 1 :: q_X0_firstDuty_15
def q_X0_firstDuty_7 : List zEnt := zEa 7 (.if_icmp .ge 41) 3 48 :: q_X0_firstDuty_10
def q_X0_firstDuty_2 : List zEnt := zE 2 (.iload_n 3) 1 :: zE 3 (.aload_n 0) 1 :: zEf 4 (.getfield 46) 3 0 8 263 (0, 0, 0) :: q_X0_firstDuty_7
def q_X0_firstDuty_45 : List zEnt := zEa 45 (.goto (-43)) 3 2 :: []
def q_X0_firstDuty_42 : List zEnt := zEk 42 (.iinc 3 1) 3 1 :: q_X0_firstDuty_45
def q_X0_firstDuty_49 : List zEnt := zE 49 .ireturn 1 :: []
def q_X0_firstDuty_48 : List zEnt := zEk 48 (.iconst (-1)) 1 (-1) :: q_X0_firstDuty_49
def b_X0_firstDuty : List (Nat × List zEnt) := [(0, q_X0_firstDuty_0), (2, q_X0_firstDuty_2), (42, q_X0_firstDuty_42), (48, q_X0_firstDuty_48)]
theorem bk_X0_firstDuty : zchB 3 b_X0_firstDuty = true := by decide +kernel
theorem hy_X0_firstDuty {ρ : Type} {X : zX} (hX : zHX X) : zHY X 3 (zc0 (ρ := ρ)) := zHX.hY hX (zc0_ok X) (by decide +kernel)
def gl_X0_firstDuty_2 {ρ : Type} (f : zH → Nat → Int32 → Int32 → Int32 → Option ρ) (σ : zH) (L st : List zAV) : Option ρ := match L, st with
  | [.inr (.inr (.inl (0, i0))), .inl x1, .inl x2, .inl x3], [] => f σ i0 x1 x2 x3
  | _, _ => none
theorem glr_X0_firstDuty_2 {ρ : Type} (f : zH → Nat → Int32 → Int32 → Int32 → Option ρ) (σ : zH) (i0 : Nat) (x1 : Int32) (x2 : Int32) (x3 : Int32)  : gl_X0_firstDuty_2 f σ [vR 0 i0, vI x1, vI x2, vI x3] [] = f σ i0 x1 x2 x3 := rfl
theorem t_X0_firstDuty_0 {G : Nat → zH → List zAV → List zAV → Option (zH × Int32)} (es : List zEnt) (σ : zH) (i0 : Nat) (x1 : Int32) (x2 : Int32) (y3 : zAV) : zev zc0 G 0 krI (zEk 0 (.iconst 0) 1 0 :: zE 1 (.istore_n 3) 1 :: es) σ [vR 0 i0, vI x1, vI x2, y3] [] = zev zc0 G 0 krI es σ [vR 0 i0, vI x1, vI x2, vI (0 : Int32)] [] := rfl
theorem t_X0_firstDuty_2 {G : Nat → zH → List zAV → List zAV → Option (zH × Int32)} (es : List zEnt) (σ : zH) (i0 : Nat) (x1 : Int32) (x2 : Int32) (x3 : Int32)  : zev zc0 G 0 krI (zE 2 (.iload_n 3) 1 :: zE 3 (.aload_n 0) 1 :: zEf 4 (.getfield 46) 3 0 8 263 (0, 0, 0) :: es) σ [vR 0 i0, vI x1, vI x2, vI x3] [] = zev zc0 G 0 krI es σ [vR 0 i0, vI x1, vI x2, vI x3] [vI (σ.1 0 i0 8), vI x3] := rfl
theorem t_X0_firstDuty_10 {G : Nat → zH → List zAV → List zAV → Option (zH × Int32)} (es : List zEnt) (σ : zH) (i0 : Nat) (x1 : Int32) (x2 : Int32) (x3 : Int32)  : zev zc0 G 0 krI (zE 10 (.aload_n 0) 1 :: zEf 11 (.getfield 30) 3 0 9 266 (1, 18, 0) :: zE 14 (.iload_n 3) 1 :: es) σ [vR 0 i0, vI x1, vI x2, vI x3] [] = zev zc0 G 0 krI es σ [vR 0 i0, vI x1, vI x2, vI x3] [vI x3, vR 18 (i0 + 0)] := rfl
theorem t_X0_firstDuty_16 {G : Nat → zH → List zAV → List zAV → Option (zH × Int32)} (es : List zEnt) (σ : zH) (i0 : Nat) (x1 : Int32) (x2 : Int32) (x3 : Int32) (xs0 : Int32)  : zev zc0 G 0 krI (zE 16 (.iload_n 1) 1 :: es) σ [vR 0 i0, vI x1, vI x2, vI x3] [vI xs0] = zev zc0 G 0 krI es σ [vR 0 i0, vI x1, vI x2, vI x3] [vI x1, vI xs0] := rfl
theorem t_X0_firstDuty_20 {G : Nat → zH → List zAV → List zAV → Option (zH × Int32)} (es : List zEnt) (σ : zH) (i0 : Nat) (x1 : Int32) (x2 : Int32) (x3 : Int32)  : zev zc0 G 0 krI (zE 20 (.aload_n 0) 1 :: zEf 21 (.getfield 33) 3 0 10 268 (1, 19, 0) :: zE 24 (.iload_n 3) 1 :: es) σ [vR 0 i0, vI x1, vI x2, vI x3] [] = zev zc0 G 0 krI es σ [vR 0 i0, vI x1, vI x2, vI x3] [vI x3, vR 19 (i0 + 0)] := rfl
theorem t_X0_firstDuty_26 {G : Nat → zH → List zAV → List zAV → Option (zH × Int32)} (es : List zEnt) (σ : zH) (i0 : Nat) (x1 : Int32) (x2 : Int32) (x3 : Int32) (xs0 : Int32)  : zev zc0 G 0 krI (zE 26 (.iload_n 2) 1 :: es) σ [vR 0 i0, vI x1, vI x2, vI x3] [vI xs0] = zev zc0 G 0 krI es σ [vR 0 i0, vI x1, vI x2, vI x3] [vI x2, vI xs0] := rfl
theorem t_X0_firstDuty_30 {G : Nat → zH → List zAV → List zAV → Option (zH × Int32)} (es : List zEnt) (σ : zH) (i0 : Nat) (x1 : Int32) (x2 : Int32) (x3 : Int32)  : zev zc0 G 0 krI (zE 30 (.iload_n 2) 1 :: zE 31 (.aload_n 0) 1 :: zEf 32 (.getfield 36) 3 0 11 270 (1, 20, 0) :: zE 35 (.iload_n 3) 1 :: es) σ [vR 0 i0, vI x1, vI x2, vI x3] [] = zev zc0 G 0 krI es σ [vR 0 i0, vI x1, vI x2, vI x3] [vI x3, vR 20 (i0 + 0), vI x2] := rfl
theorem t_X0_firstDuty_40 {G : Nat → zH → List zAV → List zAV → Option (zH × Int32)} (es : List zEnt) (σ : zH) (x3 : Int32) (y0 : zAV) (y1 : zAV) (y2 : zAV) : zev zc0 G 0 krI (zE 40 (.iload_n 3) 1 :: es) σ [y0, y1, y2, vI x3] [] = zev zc0 G 0 krI es σ [y0, y1, y2, vI x3] [vI x3] := rfl
theorem t_X0_firstDuty_42 {G : Nat → zH → List zAV → List zAV → Option (zH × Int32)} (es : List zEnt) (σ : zH) (i0 : Nat) (x1 : Int32) (x2 : Int32) (x3 : Int32)  : zev zc0 G 0 krI (zEk 42 (.iinc 3 1) 3 1 :: es) σ [vR 0 i0, vI x1, vI x2, vI x3] [] = zev zc0 G 0 krI es σ [vR 0 i0, vI x1, vI x2, vI (x3 + (1 : Int32))] [] := rfl
theorem t_X0_firstDuty_48 {G : Nat → zH → List zAV → List zAV → Option (zH × Int32)} (es : List zEnt) (σ : zH)  (y0 : zAV) (y1 : zAV) (y2 : zAV) (y3 : zAV) : zev zc0 G 0 krI (zEk 48 (.iconst (-1)) 1 (-1) :: es) σ [y0, y1, y2, y3] [] = zev zc0 G 0 krI es σ [y0, y1, y2, y3] [vI (-1 : Int32)] := rfl
noncomputable def k_X0_firstDuty_2  : Nat → zH → Nat → Int32 → Int32 → Int32 → Option (zH × Int32)
  | 0, _, _, _, _, _ => none
  | n + 1, σ, i0, x1, x2, x3 =>
    if x3 < (σ.1 0 i0 8) then
      ix x3 8 fun j1 =>
      if (σ.1 18 (i0 + 0) j1) = x1 then
        ix x3 8 fun j2 =>
        if x2 < (σ.1 19 (i0 + 0) j2) then
          (k_X0_firstDuty_2 n) σ i0 x1 x2 (x3 + (1 : Int32))
        else
          ix x3 8 fun j3 =>
          if (σ.1 20 (i0 + 0) j3) < x2 then
            (k_X0_firstDuty_2 n) σ i0 x1 x2 (x3 + (1 : Int32))
          else
            some (σ, x3)
      else
        (k_X0_firstDuty_2 n) σ i0 x1 x2 (x3 + (1 : Int32))
    else
      some (σ, (-1 : Int32))
theorem e_X0_firstDuty_2  (n : Nat) (σ : zH) (i0 : Nat) (x1 : Int32) (x2 : Int32) (x3 : Int32)  : k_X0_firstDuty_2 (n + 1) σ i0 x1 x2 x3 = zin zc0 (fun t => if t = 2 then some (gl_X0_firstDuty_2 (k_X0_firstDuty_2 n)) else none) 0 krI b_X0_firstDuty 2 σ [vR 0 i0, vI x1, vI x2, vI x3] [] := by
  rw [k_X0_firstDuty_2]
  exact ((zin_b rfl).trans ((t_X0_firstDuty_2 _ _ _ _ _ _).trans (x_icmp.trans (pif_ge ((zrun_b rfl rfl).trans ((t_X0_firstDuty_48 _ _ _ _ _ _).trans x_iret)) ((t_X0_firstDuty_10 _ _ _ _ _ _).trans ((x_iald (N := 8) rfl rfl).trans (pix fun _ => (t_X0_firstDuty_16 _ _ _ _ _ _ _).trans (x_icmp.trans (pif_ne ((zrun_b rfl rfl).trans ((t_X0_firstDuty_42 _ _ _ _ _ _).trans (x_goto.trans ((zrun_c rfl).trans (glr_X0_firstDuty_2 _ _ _ _ _ _))))) ((t_X0_firstDuty_20 _ _ _ _ _ _).trans ((x_iald (N := 8) rfl rfl).trans (pix fun _ => (t_X0_firstDuty_26 _ _ _ _ _ _ _).trans (x_icmp.trans (pif_gt ((zrun_b rfl rfl).trans ((t_X0_firstDuty_42 _ _ _ _ _ _).trans (x_goto.trans ((zrun_c rfl).trans (glr_X0_firstDuty_2 _ _ _ _ _ _))))) ((t_X0_firstDuty_30 _ _ _ _ _ _).trans ((x_iald (N := 8) rfl rfl).trans (pix fun _ => x_icmp.trans (pif_gt ((zrun_b rfl rfl).trans ((t_X0_firstDuty_42 _ _ _ _ _ _).trans (x_goto.trans ((zrun_c rfl).trans (glr_X0_firstDuty_2 _ _ _ _ _ _))))) ((t_X0_firstDuty_40 _ _ _ _ _ _).trans x_iret))))))))))))))))))).symm
theorem s_X0_firstDuty_2 {X : zX} (hX : zHX X)   : ∀ n σ L st r, gl_X0_firstDuty_2 (k_X0_firstDuty_2 n) σ L st = some r → zGW X 3 krI 2 σ L st r := by
  intro n
  induction n with
  | zero =>
    intro σ L st r h
    unfold gl_X0_firstDuty_2 at h
    split at h <;> cases h
  | succ n ih =>
    intro σ L st r h
    unfold gl_X0_firstDuty_2 at h
    split at h
    · exact zin_ok (hy_X0_firstDuty hX) bk_X0_firstDuty (fun t f hf => by
      by_cases e2 : t = 2
      · rw [if_pos e2] at hf; subst e2; cases hf; exact ih
      rw [if_neg e2] at hf
      cases hf) ((e_X0_firstDuty_2 _ _ _ _ _ _).symm.trans h)
    · cases h
noncomputable def d_X0_firstDuty (σ : zH) (ia0 : Nat) (xa1 : Int32) (xa2 : Int32) : Option (zH × Int32) :=
  (k_X0_firstDuty_2 zN) σ ia0 xa1 xa2 (0 : Int32)
theorem e_X0_firstDuty (σ : zH) (ia0 : Nat) (xa1 : Int32) (xa2 : Int32) : d_X0_firstDuty σ ia0 xa1 xa2 = zin zc0 (fun t => if t = 2 then some (gl_X0_firstDuty_2 (k_X0_firstDuty_2 zN)) else none) 0 krI b_X0_firstDuty 0 σ [vR 0 ia0, vI xa1, vI xa2, vU] [] := by
  unfold d_X0_firstDuty
  exact ((zin_b rfl).trans ((t_X0_firstDuty_0 _ _ _ _ _ _).trans (x_cut.trans ((zrun_c rfl).trans (glr_X0_firstDuty_2 _ _ _ _ _ _))))).symm
noncomputable def g_X0_firstDuty {ρ : Type} (σ : zH) (av : List zAV) (q : zH → zAV → Option ρ) : Option ρ := match av with
  | [.inr (.inr (.inl (0, ia0))), .inl xa1, .inl xa2] => (d_X0_firstDuty σ ia0 xa1 xa2).bind fun p => q p.1 (vI p.2)
  | _ => none
theorem gr_X0_firstDuty {ρ : Type} (σ : zH) (ia0 : Nat) (xa1 : Int32) (xa2 : Int32) (q : zH → zAV → Option ρ) : g_X0_firstDuty σ [vR 0 ia0, vI xa1, vI xa2] q = (d_X0_firstDuty σ ia0 xa1 xa2).bind fun p => q p.1 (vI p.2) := rfl
theorem c_X0_firstDuty {ρ : Type} {X : zX} (hX : zHX X) {σ : zH} {av : List zAV} {q : zH → zAV → Option ρ} {r : ρ} (h : g_X0_firstDuty σ av q = some r) (hv : ∀ a ∈ av, zval X a) : zcon X 3 σ av q r := by
  unfold g_X0_firstDuty at h
  split at h
  · exact zcon_I (n := 3) (ml := 4) (rc := 0) (st := 0) (kd := 0) (np := 2) (by decide +kernel) (by decide) ⟨_, _, rfl, rfl⟩ (Nat.le_of_ble_eq_true rfl) hv h (fun y h1 => (zin_ok (hy_X0_firstDuty hX) bk_X0_firstDuty (fun t f hf => by
      by_cases e2 : t = 2
      · rw [if_pos e2] at hf; subst e2; cases hf; exact ((fun σ L st r h => s_X0_firstDuty_2 hX  zN σ L st r h))
      rw [if_neg e2] at hf
      cases hf) ((e_X0_firstDuty _ _ _ _).symm.trans h1)))
  · cases h

/-! SleepWaves$Log.upAgo(I)I -/
def q_X6_upAgo_14 : List zEnt := zE 14 .ireturn 1 :: []
def q_X6_upAgo_13 : List zEnt := zEk 13 (.iconst (-1)) 1 (-1) :: q_X6_upAgo_14
def q_X6_upAgo_10 : List zEnt := zEa 10 (.if_icmp .le 5) 3 15 :: q_X6_upAgo_13
def q_X6_upAgo_5 : List zEnt := zE 5 (.iload_n 1) 1 :: zE 6 (.aload_n 0) 1 :: zEf 7 (.getfield 19) 3 6 2 424 (0, 0, 0) :: q_X6_upAgo_10
def q_X6_upAgo_2 : List zEnt := zEa 2 (.if_icmp .lt 11) 3 13 :: q_X6_upAgo_5
def q_X6_upAgo_0 : List zEnt := zE 0 (.iload_n 1) 1 :: zEk 1 (.iconst 1) 1 1 :: q_X6_upAgo_2
def q_X6_upAgo_37 : List zEnt := zEa 37 (.goto 4) 3 41 :: []
def q_X6_upAgo_32 : List zEnt := zE 32 (.iload_n 2) 1 :: zEk 33 (.sipush 192) 3 192 :: zE 36 .iadd 1 :: q_X6_upAgo_37
def q_X6_upAgo_29 : List zEnt := zEa 29 (.ifCond .ge 11) 3 40 :: q_X6_upAgo_32
def q_X6_upAgo_15 : List zEnt := zE 15 (.aload_n 0) 1 :: zEf 16 (.getfield 15) 3 6 1 423 (0, 0, 0) :: zEk 19 (.iconst 1) 1 1 :: zE 20 .iadd 1 :: zE 21 (.iload_n 1) 1 :: zE 22 .isub 1 :: zE 23 (.istore_n 2) 1 :: zE 24 (.aload_n 0) 1 :: zEf 25 (.getfield 9) 3 6 0 422 (1, 30, 0) :: zE 28 (.iload_n 2) 1 :: q_X6_upAgo_29
def q_X6_upAgo_42 : List zEnt := zE 42 .ireturn 1 :: []
def q_X6_upAgo_41 : List zEnt := zE 41 .iaload 1 :: q_X6_upAgo_42
def q_X6_upAgo_40 : List zEnt := zE 40 (.iload_n 2) 1 :: q_X6_upAgo_41
def b_X6_upAgo : List (Nat × List zEnt) := [(0, q_X6_upAgo_0), (13, q_X6_upAgo_13), (15, q_X6_upAgo_15), (40, q_X6_upAgo_40), (41, q_X6_upAgo_41)]
theorem bk_X6_upAgo : zchB 55 b_X6_upAgo = true := by decide +kernel
theorem hy_X6_upAgo {ρ : Type} {X : zX} (hX : zHX X) : zHY X 55 (zc0 (ρ := ρ)) := zHX.hY hX (zc0_ok X) (by decide +kernel)
theorem t_X6_upAgo_0 {G : Nat → zH → List zAV → List zAV → Option (zH × Int32)} (es : List zEnt) (σ : zH) (i0 : Nat) (x1 : Int32) (y2 : zAV) : zev zc0 G 0 krI (zE 0 (.iload_n 1) 1 :: zEk 1 (.iconst 1) 1 1 :: es) σ [vR 6 i0, vI x1, y2] [] = zev zc0 G 0 krI es σ [vR 6 i0, vI x1, y2] [vI (1 : Int32), vI x1] := rfl
theorem t_X6_upAgo_5 {G : Nat → zH → List zAV → List zAV → Option (zH × Int32)} (es : List zEnt) (σ : zH) (i0 : Nat) (x1 : Int32) (y2 : zAV) : zev zc0 G 0 krI (zE 5 (.iload_n 1) 1 :: zE 6 (.aload_n 0) 1 :: zEf 7 (.getfield 19) 3 6 2 424 (0, 0, 0) :: es) σ [vR 6 i0, vI x1, y2] [] = zev zc0 G 0 krI es σ [vR 6 i0, vI x1, y2] [vI (σ.1 6 i0 2), vI x1] := rfl
theorem t_X6_upAgo_13 {G : Nat → zH → List zAV → List zAV → Option (zH × Int32)} (es : List zEnt) (σ : zH)  (y0 : zAV) (y1 : zAV) (y2 : zAV) : zev zc0 G 0 krI (zEk 13 (.iconst (-1)) 1 (-1) :: es) σ [y0, y1, y2] [] = zev zc0 G 0 krI es σ [y0, y1, y2] [vI (-1 : Int32)] := rfl
theorem t_X6_upAgo_15 {G : Nat → zH → List zAV → List zAV → Option (zH × Int32)} (es : List zEnt) (σ : zH) (i0 : Nat) (x1 : Int32) (y2 : zAV) : zev zc0 G 0 krI (zE 15 (.aload_n 0) 1 :: zEf 16 (.getfield 15) 3 6 1 423 (0, 0, 0) :: zEk 19 (.iconst 1) 1 1 :: zE 20 .iadd 1 :: zE 21 (.iload_n 1) 1 :: zE 22 .isub 1 :: zE 23 (.istore_n 2) 1 :: zE 24 (.aload_n 0) 1 :: zEf 25 (.getfield 9) 3 6 0 422 (1, 30, 0) :: zE 28 (.iload_n 2) 1 :: es) σ [vR 6 i0, vI x1, y2] [] = zev zc0 G 0 krI es σ [vR 6 i0, vI x1, vI (((σ.1 6 i0 1) + (1 : Int32)) - x1)] [vI (((σ.1 6 i0 1) + (1 : Int32)) - x1), vR 30 (i0 + 0)] := rfl
theorem t_X6_upAgo_32 {G : Nat → zH → List zAV → List zAV → Option (zH × Int32)} (es : List zEnt) (σ : zH) (x2 : Int32) (is0 : Nat) (y0 : zAV) (y1 : zAV) : zev zc0 G 0 krI (zE 32 (.iload_n 2) 1 :: zEk 33 (.sipush 192) 3 192 :: zE 36 .iadd 1 :: es) σ [y0, y1, vI x2] [vR 30 is0] = zev zc0 G 0 krI es σ [y0, y1, vI x2] [vI (x2 + (192 : Int32)), vR 30 is0] := rfl
theorem t_X6_upAgo_40 {G : Nat → zH → List zAV → List zAV → Option (zH × Int32)} (es : List zEnt) (σ : zH) (x2 : Int32) (is0 : Nat) (y0 : zAV) (y1 : zAV) : zev zc0 G 0 krI (zE 40 (.iload_n 2) 1 :: es) σ [y0, y1, vI x2] [vR 30 is0] = zev zc0 G 0 krI es σ [y0, y1, vI x2] [vI x2, vR 30 is0] := rfl
noncomputable def d_X6_upAgo (σ : zH) (ia0 : Nat) (xa1 : Int32) : Option (zH × Int32) :=
  if xa1 < (1 : Int32) then
    some (σ, (-1 : Int32))
  else
    if (σ.1 6 ia0 2) < xa1 then
      some (σ, (-1 : Int32))
    else
      if (((σ.1 6 ia0 1) + (1 : Int32)) - xa1) < 0 then
        ix ((((σ.1 6 ia0 1) + (1 : Int32)) - xa1) + (192 : Int32)) 192 fun j2 =>
        some (σ, (σ.1 30 (ia0 + 0) j2))
      else
        ix (((σ.1 6 ia0 1) + (1 : Int32)) - xa1) 192 fun j1 =>
        some (σ, (σ.1 30 (ia0 + 0) j1))
theorem e_X6_upAgo (σ : zH) (ia0 : Nat) (xa1 : Int32) : d_X6_upAgo σ ia0 xa1 = zin zc0 (fun t => none) 0 krI b_X6_upAgo 0 σ [vR 6 ia0, vI xa1, vU] [] := by
  unfold d_X6_upAgo
  exact ((zin_b rfl).trans ((t_X6_upAgo_0 _ _ _ _ _).trans (x_icmp.trans (pif_lt ((zrun_b rfl rfl).trans ((t_X6_upAgo_13 _ _ _ _ _).trans x_iret)) ((t_X6_upAgo_5 _ _ _ _ _).trans (x_icmp.trans (pif_le ((zrun_b rfl rfl).trans ((t_X6_upAgo_15 _ _ _ _ _).trans (x_if.trans (pif_ge ((zrun_b rfl rfl).trans ((t_X6_upAgo_40 _ _ _ _ _ _).trans ((x_iald (N := 192) rfl rfl).trans (pix fun _ => x_iret)))) ((t_X6_upAgo_32 _ _ _ _ _ _).trans (x_goto.trans ((zrun_b rfl rfl).trans ((x_iald (N := 192) rfl rfl).trans (pix fun _ => x_iret))))))))) ((t_X6_upAgo_13 _ _ _ _ _).trans x_iret)))))))).symm
noncomputable def g_X6_upAgo {ρ : Type} (σ : zH) (av : List zAV) (q : zH → zAV → Option ρ) : Option ρ := match av with
  | [.inr (.inr (.inl (6, ia0))), .inl xa1] => (d_X6_upAgo σ ia0 xa1).bind fun p => q p.1 (vI p.2)
  | _ => none
theorem gr_X6_upAgo {ρ : Type} (σ : zH) (ia0 : Nat) (xa1 : Int32) (q : zH → zAV → Option ρ) : g_X6_upAgo σ [vR 6 ia0, vI xa1] q = (d_X6_upAgo σ ia0 xa1).bind fun p => q p.1 (vI p.2) := rfl
theorem c_X6_upAgo {ρ : Type} {X : zX} (hX : zHX X) {σ : zH} {av : List zAV} {q : zH → zAV → Option ρ} {r : ρ} (h : g_X6_upAgo σ av q = some r) (hv : ∀ a ∈ av, zval X a) : zcon X 55 σ av q r := by
  unfold g_X6_upAgo at h
  split at h
  · exact zcon_I (n := 55) (ml := 3) (rc := 0) (st := 0) (kd := 6) (np := 1) (by decide +kernel) (by decide) ⟨_, _, rfl, rfl⟩ (Nat.le_of_ble_eq_true rfl) hv h (fun y h1 => (zin_ok (hy_X6_upAgo hX) bk_X6_upAgo (fun t f hf => by
      cases hf) ((e_X6_upAgo _ _ _).symm.trans h1)))
  · cases h

