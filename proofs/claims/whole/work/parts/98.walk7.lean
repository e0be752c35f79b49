/-! the law's entry -/
def lwin (k : Nat) : Bool := lw_good.contains (.instantiable (zcl k).1 (zcl k).2.2)
set_option maxRecDepth 100000 in
theorem lwin_all : (List.range 12).all lwin = true := by decide +kernel
theorem lwgood_tbl : ∀ w ∈ lw_good, w ∈ lw_tbl := fun w hw => (List.mem_filter.mp hw).1
theorem lwarr {s : State} {args : Array Value} {t : FieldType} (h : (Cond.arrayClass t).before args s = true) (ht : ∀ c, s.vm.findClass ("[" ++ t.toString) = some c → va_RA s c t) : ∃ cA : ClassId, ArrOfT s cA t ∧ va_RA s cA t := by
  obtain ⟨cA, kA, comp, h1, h2, h3⟩ := Cond.arrayClass_spec h
  exact ⟨cA, fun n z => ⟨(fun k h => by cases h), kA, h2, comp, h3⟩, ht cA h1⟩
theorem lwarq {s : State} {n : String} (h : va_AO n s) : ∃ cA : ClassId, ArrOfT s cA (.object n) ∧ va_RA s cA (.object n) := by
  obtain ⟨comp, cA, kA, h1, -, h2, h3, h4⟩ := Cond.arrayOver_spec h
  exact ⟨cA, fun N z => ⟨(fun k h => by cases h), kA, h2, comp, h3⟩, kA, comp, h2, h3, h1, h4⟩
theorem lwAO {s : State} {args : Array Value} (hts : ∀ w ∈ lw_tbl, w.before args s = true) : ∀ t, 4 ≤ t → t < 7 → va_AO (nqN t) s := fun t h4 h7 => by
  rcases (show t = 4 ∨ t = 5 ∨ t = 6 by omega) with rfl | rfl | rfl
  · exact va_AO.of (hts (.arrayOver (.object RX4)) (by decide +kernel))
  · exact va_AO.of (hts (.arrayOver (.object RX8)) (by decide +kernel))
  · exact va_AO.of (hts (.arrayOver (.object RX6)) (by decide +kernel))
theorem lwK {s : State} {args : Array Value} (hts : ∀ w ∈ lw_tbl, w.before args s = true) : ∃ (D : va_G) (cA : Nat → ClassId), va_K D zcls ((List.range 7).map fun t => (cA t, tyF t)) s := by
  have htg : ∀ w ∈ lw_good, w.before args s = true := fun w hw => hts w (lwgood_tbl w hw)
  have h0 : ∀ k : Nat, ∃ q : ClassId × (Nat → Nat), k < 12 → u_Kn s (zcl k).1 (zcl k).2.1 (zcl k).2.2 q.1 q.2 := by
    intro k
    by_cases hk : k < 12
    · have h1 := List.all_eq_true.mp lwin_all k (List.mem_range.mpr hk)
      obtain ⟨c, i, h2⟩ := u_known (C := (zcl k).1) (T := (zcl k).2.1) (N := (zcl k).2.2) (n := (zcl k).2.2) htg (zcok_at hk).1 (htg _ (by unfold lwin at h1; simpa using h1))
      exact ⟨(c, i), fun _ => h2⟩
    · exact ⟨(0, fun _ => 0), fun h => absurd h hk⟩
  have h1 : ∀ t : Nat, ∃ cA : ClassId, t < 7 → ArrOfT s cA (tyF t) ∧ va_RA s cA (tyF t) := by
    intro t
    by_cases ht : t < 7
    · by_cases h4 : t < 4
      · have : ∃ cA : ClassId, ArrOfT s cA (tyF t) ∧ va_RA s cA (tyF t) := by
          match t, h4 with
          | 0, _ => exact lwarr (hts (.arrayClass .int) (by decide +kernel)) (fun c h => h)
          | 1, _ => exact lwarr (hts (.arrayClass .byte) (by decide +kernel)) (fun c h => h)
          | 2, _ => exact lwarr (hts (.arrayClass .boolean) (by decide +kernel)) (fun c h => h)
          | 3, _ => exact lwarr (hts (.arrayClass .long) (by decide +kernel)) (fun c h => h)
          | n + 4, h => omega
        obtain ⟨c, h⟩ := this
        exact ⟨c, fun _ => h⟩
      · obtain ⟨c, h⟩ := lwarq (lwAO hts t (by omega) ht)
        rw [← nqn_at (by omega) ht] at h
        exact ⟨c, fun _ => h⟩
    · exact ⟨0, fun h => absurd h ht⟩
  obtain ⟨f, hf⟩ := Classical.axiomOfChoice h0
  obtain ⟨g, hg⟩ := Classical.axiomOfChoice h1
  refine ⟨(fun k => (f k).1, fun k => (f k).2), g, fun c q hq => ?_, fun k q hq => ?_⟩
  · have hc : c < 12 := (List.getElem?_eq_some_iff.mp hq).1
    have e := (zcls_at c hc).symm.trans hq
    cases e
    exact hf c hc
  · have hk : k < 7 := by
      have := (List.getElem?_eq_some_iff.mp hq).1
      simpa using this
    rw [List.getElem?_map, List.getElem?_range hk, Option.map_some] at hq
    cases hq
    exact hg k hk
theorem nzA {X : zX} {al sad : Nat → Nat} {dm : List (Nat × Nat)} {cs : List nw_C} (hd : dm.all (nck cs) = true) (hlo : dm.all (fun q => Nat.blt q.1 200 && Nat.blt q.2 2147483648) = true) {a : Nat} (h : zA (nXs X al sad dm) a) : ∃ (k : Nat) (c : va_E), (nw_W X al cs)[k]? = some (a, c) := by
  obtain ⟨q, hq, rfl⟩ := h
  have h2 := nck_in (List.all_eq_true.mp hd q hq)
  have h3 := nw_blt (nand2 (List.all_eq_true.mp hlo q hq)).1
  have e : zad (nXs X al sad dm) q.1 q.2 = al (npl q.1 q.2) := if_neg (by omega)
  rw [e]
  exact ⟨_, _, nw_has X (List.getElem?_eq_getElem h2)⟩
theorem lwmetC (X : zX) (base : Nat) (al : Nat → Nat) : nMet X base 10 al [.inl (10, nda 10)] [vR 0 0] ncsC nkcC nksC := by
  have ho : nw_o [.inl (10, nda 10)] := fun c hc => by rw [List.mem_singleton.mp hc]; exact nda_k _ _
  have h := nch_at 10 (by omega)
  exact nmet (by omega) (by decide) ho (nT0 10 (by omega)) (nrun_ok X base 700 10 (nT 10) _ _ _ _ _ _ _ _ nresC (by omega) h.1 h.2.1)
theorem lwmetM (X : zX) (base : Nat) (al : Nat → Nat) : nMet X base 11 al [.inl (11, nda 11)] [vR 0 0] ncsM nkcM nksM := by
  have ho : nw_o [.inl (11, nda 11)] := fun c hc => by rw [List.mem_singleton.mp hc]; exact nda_k _ _
  have h := nch_at 11 (by omega)
  exact nmet (by omega) (by decide) ho (nT0 11 (by omega)) (nrun_ok X base 700 11 (nT 11) _ _ _ _ _ _ _ _ nresM (by omega) h.1 h.2.1)
theorem lwNs {s : State} {args : Array Value} (hts : ∀ w ∈ lw_tbl, w.before args s = true) : nNs s := by
  refine ⟨fun a i x h hm => ?_, lwAO hts⟩
  have h1 : ∀ w ∈ nNW, w ∈ lw_tbl := by
    intro w hw
    have h2 : nNW.all (fun w => lw_tbl.contains w) = true := by decide +kernel
    simpa using List.all_eq_true.mp h2 w hw
  exact va_Nw.of rfl (hts _ (h1 _ hm))
