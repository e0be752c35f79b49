/-! what the statement gives of the texts -/
def lwfl : List Cond := flatC (Jvm.Cond.and given_1 narrow_1)
def lwps : List Nat := [45, 56, 64, 72, 81, 90, 98, 105, 112, 119, 128, 136, 148, 155, 163, 169, 178, 187, 194, 200, 213, 223, 232, 242, 251, 261, 269, 277, 285, 295, 304, 312, 321, 328, 338, 346]
def lwtm (e : Nat) : Term := .string (zsO e) (zsI e)
def lwsW (e : Nat) : Nat := (zg zsL e ("", 0, "", 0)).2.2.2
def lwsk (e : Nat) : Bool := decide (lwfl[zg lwps e 0]? = some (.exactly (lwtm e) "java/lang/String")) && decide (lwfl[zg lwps e 0 + 1]? = some (.eq (.field (lwtm e) "java/lang/String" "coder" "B") (.int 0))) && decide (lwfl[zg lwps e 0 + 2]? = some (.arrayOf (.field (lwtm e) "java/lang/String" "value" "[B") .byte)) && decide (lwfl[zg lwps e 0 + 3]? = some (.eq (.length (.field (lwtm e) "java/lang/String" "value" "[B")) (.int (Int32.ofNat (zsN e)))))
  && ((List.range (zsN e)).all fun j => decide (lwfl[zg lwps e 0 + 4 + j]? = some (.eq (.elem (.field (lwtm e) "java/lang/String" "value" "[B") (.int (Int32.ofNat j))) (.int ((zg zsB e []).getD j 0))))) && decide (lw_tbl[lwsW e]? = some (.stringRef (zsO e) (zsI e) (zsT e))) && Nat.blt (zsN e) 100
set_option maxRecDepth 1000000 in
theorem lwsk_all : (List.range zNS).all lwsk = true := by decide +kernel
theorem lwstr {s : State} {args : Array Value} {A : Nat → Prop} (hts : ∀ w ∈ lw_tbl, w.before args s = true) (hg : (Jvm.Cond.and given_1 narrow_1).before args s = true) (hA : ∀ a : Nat, a < s.heap.size → ¬ A a) : ∃ sad sav : Nat → Nat, ∀ e, e < zNS → vk_S 1 [zsN e] [zg zsB e []] (fun _ => sad e) (fun _ => sav e) A s s.heap ∧ vk_R (zsO e) (zsI e) (zsT e) (sad e) s := by
  have hs : ∀ c ∈ lwfl, c.before args s = true := flat_of_before _ hg
  have h0 : ∀ e : Nat, ∃ q : Nat × Nat, e < zNS → vk_S 1 [zsN e] [zg zsB e []] (fun _ => q.1) (fun _ => q.2) A s s.heap ∧ vk_R (zsO e) (zsI e) (zsT e) q.1 s := by
    intro e
    by_cases he : e < zNS
    · have h1 := List.all_eq_true.mp lwsk_all e (List.mem_range.mpr he)
      unfold lwsk at h1
      simp only [Bool.and_eq_true, decide_eq_true_eq] at h1
      obtain ⟨⟨⟨⟨⟨⟨k1, k2⟩, k3⟩, k4⟩, k5⟩, k6⟩, k7⟩ := h1
      have i0 : ∀ i : Nat, i < 1 → i = 0 := fun i hi => by omega
      obtain ⟨adK, adV, hZ, hE⟩ := vk_Sof (args := args) (s := s) (N := 1) (tm := fun _ => lwtm e) (len := [zsN e]) (byt := [zg zsB e []]) (A := A) (fun i hi => by rw [i0 i hi]; show zsN e < 2 ^ 31; have := nw_blt k7; omega)
        (fun i _ => hs _ (List.mem_of_getElem? k1)) (fun i _ => hs _ (List.mem_of_getElem? k2)) (fun i _ => hs _ (List.mem_of_getElem? k3)) (fun i hi => by rw [i0 i hi]; exact hs _ (List.mem_of_getElem? k4))
        (fun i hi j hj => by
          rw [i0 i hi] at hj ⊢
          exact hs _ (List.mem_of_getElem? (of_decide_eq_true (List.all_eq_true.mp k5 j (List.mem_range.mpr hj)))))
        (fun i j hi hj hij => absurd ((i0 i hi).trans (i0 j hj).symm) hij) hA
      refine ⟨(adK 0, adV 0), fun _ => ⟨⟨fun i hi => ?_, fun i j hi hj _ => (i0 i hi).trans (i0 j hj).symm⟩, vk_R.of (hts _ (List.mem_of_getElem? k6)) (hE 0 (by omega))⟩⟩
      have h2 := hZ.1 i hi
      rw [i0 i hi] at h2 ⊢
      exact h2
    · exact ⟨(0, 0), fun h => absurd h he⟩
  obtain ⟨f, hf⟩ := Classical.axiomOfChoice h0
  exact ⟨fun e => (f e).1, fun e => (f e).2, hf⟩
theorem lwsta {s : State} {args : Array Value} {A : Nat → Prop} (hts : ∀ w ∈ lw_tbl, w.before args s = true) (hg : (Jvm.Cond.and given_1 narrow_1).before args s = true) (hA : ∀ a : Nat, a < s.heap.size → ¬ A a) : va_Z "java/lang/String" "COMPACT_STRINGS" "Z" (.int 1) A s s.heap ∧ va_Zq "jdk/internal/util/Preconditions" "SIOOBE_FORMATTER" "Ljava/util/function/BiFunction;" A s s.heap := by
  have hs : ∀ c ∈ lwfl, c.before args s = true := flat_of_before _ hg
  have q1 : (Cond.eq (.static "java/lang/String" "COMPACT_STRINGS" "Z") (.int 1)).before args s = true := hs _ (List.mem_of_getElem? (i := 4) (by decide +kernel))
  have q2 : (Cond.isRef (.static "jdk/internal/util/Preconditions" "SIOOBE_FORMATTER" "Ljava/util/function/BiFunction;")).before args s = true := hs _ (List.mem_of_getElem? (i := 5) (by decide +kernel))
  exact ⟨va_Zof (hts (.laysStatic "java/lang/String" "COMPACT_STRINGS" "Z") (by decide +kernel)) (hts (.initialized "java/lang/String") (by decide +kernel)) (va_eqt q1) hA, va_Zqof (hts (.laysStatic "jdk/internal/util/Preconditions" "SIOOBE_FORMATTER" "Ljava/util/function/BiFunction;") (by decide +kernel)) (hts (.initialized "jdk/internal/util/Preconditions") (by decide +kernel)) q2 hA⟩
