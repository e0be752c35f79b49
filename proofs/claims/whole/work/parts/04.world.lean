/-! WORLDS: what a heap of the machine has to do with a pictured one; checks of the tables -/
/-- launch, classes and slots, addresses, array classes by type, the cells of the world, values' cells of strings -/
abbrev zX : Type := Launch × va_G × (Nat → Nat → Nat) × (Nat → ClassId) × List (Nat × Nat) × (Nat → Nat)
def zl (X : zX) : Launch := X.1
def zD (X : zX) : va_G := X.2.1
def zad (X : zX) : Nat → Nat → Nat := X.2.2.1
def zcA (X : zX) : Nat → ClassId := X.2.2.2.1
def zdm (X : zX) : List (Nat × Nat) := X.2.2.2.2.1
def zav (X : zX) : Nat → Nat := X.2.2.2.2.2
def cV (ad : Nat → Nat → Nat) : zAV → Value
  | .inl x => .int x
  | .inr (.inl x) => .long x
  | .inr (.inr (.inl q)) => .ref (ad q.1 q.2)
  | .inr (.inr (.inr _)) => .null
def zA (X : zX) : Nat → Prop := fun a => ∃ q ∈ zdm X, a = zad X q.1 q.2
def ztys (X : zX) : List (ClassId × FieldType) := (List.range 7).map fun t => (zcA X t, tyF t)
theorem ztys_at (X : zX) {t : Nat} (h : t < 7) : (ztys X)[t]? = some (zcA X t, tyF t) := by
  simp [ztys, h]
def zfN (k : Nat) : Nat := (zcl k).2.2
def zfv (σ : zH) (k i j : Nat) : zAV := match fC k j with
  | (0, _, _) => vI (σ.1 k i j)
  | (1, k', d) => vR k' (i + d)
  | (2, k', d) => vR k' d
  | (4, k', _) => vR k' i
  | (3, k', _) => if σ.1 k i j < 0 then vU else vR k' (σ.1 k i j).toNatClampNeg
  | _ => vU
def zfs (X : zX) (σ : zH) (k i : Nat) : List Value := (List.range (zfN k)).map fun j => cV (zad X) (zfv σ k i j)
def zent (X : zX) (σ : zH) (k i : Nat) : va_E :=
  if k < 12 then .inr (k, zfs X σ k i)
  else if aT k < 3 then .inl (zcA X (aT k), aN k, .inl (σ.1 k i))
  else if aT k = 3 then .inl (zcA X (aT k), aN k, .inr (.inl (σ.2 k i)))
  else .inl (zcA X (aT k), aN k, .inr (.inr (.inr (.inr fun j => some (zad X (aK k) (aB k + j))))))
def zw (X : zX) (σ : zH) : va_W := (zdm X).map fun q => (zad X q.1 q.2, zent X σ q.1 q.2)
/-- two statics of the JDK that its text's methods read -/
def zSta (X : zX) (U : State) (H : Heap) : Prop := va_Z "java/lang/String" "COMPACT_STRINGS" "Z" (.int 1) (zA X) U H ∧ va_Zq "jdk/internal/util/Preconditions" "SIOOBE_FORMATTER" "Ljava/util/function/BiFunction;" (zA X) U H
def zSt1 (X : zX) (e : Nat) (U : State) (H : Heap) : Prop := vk_S 1 [zsN e] [zg zsB e []] (fun _ => zad X 200 e) (fun _ => zav X e) (zA X) U H ∧ vk_R (zsO e) (zsI e) (zsT e) (zad X 200 e) U ∧ zSta X U H
def zStr (X : zX) (U : State) (H : Heap) : Prop := ∀ e, e < zNS → zSt1 X e U H
/-- a value that is a cell is one of the world, or a text -/
def zval (X : zX) (v : zAV) : Prop := match v with
  | .inr (.inr (.inl q)) => q ∈ zdm X ∨ (q.1 = 200 ∧ q.2 < zNS)
  | _ => True
/-- the world's cells are apart; what its cells name is in it -/
def zclo (dm : List (Nat × Nat)) : Bool := dm.all fun q =>
  (if q.1 < 12 then (List.range (zfN q.1)).all fun j => match fC q.1 j with
    | (1, k', d) => dm.contains (k', q.2 + d)
    | (2, k', d) => dm.contains (k', d)
    | (4, k', _) => dm.contains (k', q.2)
    | (3, k', _) => (List.range (zcnt k')).all fun i => dm.contains (k', i)
    | (0, _, _) => true
    | _ => false
   else if Nat.ble 4 (aT q.1) then (List.range (aN q.1)).all fun j => dm.contains (aK q.1, aB q.1 + j) else true)
def zOK (X : zX) : Prop := (∀ (i j : Nat) (p q : Nat × Nat), (zdm X)[i]? = some p → (zdm X)[j]? = some q → zad X p.1 p.2 = zad X q.1 q.2 → i = j) ∧ zclo (zdm X) = true
def zrm (d : Nat) : Room := { frames := d, cells := 0, slots := 0, locals := 30 * d }
def zws (m : Nat) : List Cond := Cond.code (mY m) (mB m) (mL m) (mR m) :: lw_good
def zrv (X : zX) (v : zAV) : Option Value := match v with
  | .inr (.inr (.inr _)) => none
  | v => some (cV (zad X) v)
def zQ (X : zX) (σ : zH) (v : zAV) : Array Value → State → Outcome → State → Prop := fun _ st oc t => oc = .returned (zrv X v) ∧ va_P (zD X) zcls (zw X σ) t.heap ∧ va_F (zA X) st t
def zPU (X : zX) (σ : zH) (U : State) : Prop := va_K (zD X) zcls (ztys X) U ∧ va_P (zD X) zcls (zw X σ) U.heap ∧ zStr X U U.heap
/-- the contract of method m: from the heap σ and these arguments it comes back with v and the heap σ' -/
def zMet (X : zX) (m : Nat) (σ : zH) (av : List zAV) (σ' : zH) (v : zAV) : Prop :=
  Met (zl X) (mY m) (zws m) (zrm (mD m)) (va_Pc (av.map (cV (zad X))) (zPU X σ)) (zQ X σ' v) 0 0 (zA X)
/-- what stands at a method's walk -/
def zCx (X : zX) (m : Nat) (p : Program) (s : State) (args : Array Value) (mi : MethodId) (meth : Method) (c : Code) : Prop :=
  p.tables.exec = Jvm.exec ∧ c.code = mB m ∧ c.maxLocals = mL m ∧ meth.sig.returnType = mR m ∧ s.vm.findClass (mY m).cls = some mi.cls ∧ (∀ w ∈ lw_good, w.before args s = true) ∧ meth.locks = false ∧ va_K (zD X) zcls (ztys X) s ∧ zStr X s s.heap
def zls (ad : Nat → Nat → Nat) (ls : Array Slot) (n : Nat) (L : List zAV) : Prop := ls.size = n ∧ lv_wf ls ∧ L.length = n ∧ ∀ (i : Nat) (v : zAV), L[i]? = some v → v ≠ vU → ls[i]? = some (.val (cV ad v))
def zat (X : zX) (m : Nat) (s : State) (H : Heap) (locs : List Loc) (ls : Array Slot) (σ : zH) (L : List zAV) : Prop := zls (zad X) ls (mL m) L ∧ va_P (zD X) zcls (zw X σ) H ∧ va_S (zA X) s.heap H locs
/-- the machine, in method m at pc with σ, L, st, comes to the method's end with r -/
def zGW {ρ : Type} (X : zX) (m : Nat) (kr : zH → zAV → Option ρ) (pc : Nat) (σ : zH) (L st : List zAV) (r : ρ) : Prop :=
  (∀ v ∈ L ++ st, zval X v) → ∃ σ' v, kr σ' v = some r ∧ zval X v ∧ ∀ (p : Program) (e : Env) (s : State) (mi : MethodId) (args : Array Value) (below : List Frame) (meth : Method) (c : Code) (H : Heap) (locs : List Loc) (ls : Array Slot),
    zCx X m p s args mi meth c → zat X m s H locs ls σ L → W p (zl X) e (zrm (mD m)) s mi args below meth c H locs 0 0 (MQ below (zQ X σ' v) args s 0 0 (zA X)) (F0 mi pc ls (st.map (cV (zad X))))
/-- a step of the machine is one of the walk -/
theorem zGW.step {ρ : Type} {X : zX} {m : Nat} {kr : zH → zAV → Option ρ} {pc pc' : Nat} {σ σ' : zH} {L L' st st' : List zAV} {r : ρ} (h : zGW X m kr pc' σ' L' st' r) (hv : (∀ v ∈ L ++ st, zval X v) → ∀ v ∈ L' ++ st', zval X v)
    (hs : (∀ v ∈ L ++ st, zval X v) → ∀ (p : Program) (e : Env) (s : State) (mi : MethodId) (args : Array Value) (below : List Frame) (meth : Method) (c : Code) (H : Heap) (locs : List Loc) (ls : Array Slot) (Q : State → Prop),
      zCx X m p s args mi meth c → zat X m s H locs ls σ L →
      (∀ (H1 : Heap) (locs1 : List Loc) (ls1 : Array Slot), zat X m s H1 locs1 ls1 σ' L' → W p (zl X) e (zrm (mD m)) s mi args below meth c H1 locs1 0 0 Q (F0 mi pc' ls1 (st'.map (cV (zad X))))) →
      W p (zl X) e (zrm (mD m)) s mi args below meth c H locs 0 0 Q (F0 mi pc ls (st.map (cV (zad X))))) : zGW X m kr pc σ L st r := by
  intro hva
  obtain ⟨σ1, v, h1, h1v, h2⟩ := h (hv hva)
  refine ⟨σ1, v, h1, h1v, fun p e s mi args below meth c H locs ls hC ha => ?_⟩
  exact hs hva p e s mi args below meth c H locs ls _ hC ha (fun H1 locs1 ls1 ha1 => h2 p e s mi args below meth c H1 locs1 ls1 hC ha1)
/-- a step that leaves heap and locals -/
theorem zGW.pure {ρ : Type} {X : zX} {m : Nat} {kr : zH → zAV → Option ρ} {pc pc' : Nat} {σ : zH} {L st st' : List zAV} {r : ρ} (h : zGW X m kr pc' σ L st' r) (hv : (∀ v ∈ L ++ st, zval X v) → ∀ v ∈ st', zval X v)
    (hs : ∀ (p : Program) (e : Env) (s : State) (mi : MethodId) (args : Array Value) (below : List Frame) (meth : Method) (c : Code) (H : Heap) (locs : List Loc) (ls : Array Slot) (Q : State → Prop),
      zCx X m p s args mi meth c → zat X m s H locs ls σ L → W p (zl X) e (zrm (mD m)) s mi args below meth c H locs 0 0 Q (F0 mi pc' ls (st'.map (cV (zad X)))) →
      W p (zl X) e (zrm (mD m)) s mi args below meth c H locs 0 0 Q (F0 mi pc ls (st.map (cV (zad X))))) : zGW X m kr pc σ L st r :=
  h.step (fun hva v hm => (List.mem_append.mp hm).elim (fun q => hva v (List.mem_append_left _ q)) (hv hva v))
    (fun _ p e s mi args below meth c H locs ls Q hC ha k => hs p e s mi args below meth c H locs ls Q hC ha (k H locs ls ha))
theorem zvs_tl {X : zX} {L st : List zAV} {v : zAV} (h : ∀ w ∈ L ++ v :: st, zval X w) : ∀ w ∈ L ++ st, zval X w := fun w hw => h w (by
  rcases List.mem_append.mp hw with q | q
  · exact List.mem_append_left _ q
  · exact List.mem_append_right _ (List.mem_cons_of_mem _ q))
theorem zvs_hd {X : zX} {L st : List zAV} {v : zAV} (h : ∀ w ∈ L ++ v :: st, zval X w) : zval X v := h v (List.mem_append_right _ List.mem_cons_self)
theorem zvs_st {X : zX} {L st : List zAV} (h : ∀ w ∈ L ++ st, zval X w) : ∀ w ∈ st, zval X w := fun w hw => h w (List.mem_append_right _ hw)
theorem zvs_L {X : zX} {L st : List zAV} (h : ∀ w ∈ L ++ st, zval X w) : ∀ w ∈ L, zval X w := fun w hw => h w (List.mem_append_left _ hw)
theorem zvs_cons {X : zX} {st : List zAV} {v : zAV} (hv : zval X v) (h : ∀ w ∈ st, zval X w) : ∀ w ∈ v :: st, zval X w := fun w hw => by
  rcases List.mem_cons.mp hw with rfl | q
  · exact hv
  · exact h w q
/-! the locals, as the library's lists have them -/
def zkl (L : List zAV) (i : Nat) : List zAV := match i with
  | 0 => L
  | j + 1 => L.set j (zkp (L.getD j vU))
theorem zgt_eq : ∀ (L : List zAV) (n : Nat), zgt L n = L.getD n vU
  | [], n => by simp [zgt]
  | x :: t, 0 => rfl
  | x :: t, n + 1 => by rw [zgt, zgt_eq t n]; simp
theorem zs1_eq : ∀ (L : List zAV) (i : Nat) (v : zAV), zs1 L i v = (zkl L i).set i v
  | [], i, v => by cases i <;> simp [zs1, zkl]
  | x :: t, 0, v => rfl
  | x :: t, 1, v => by cases t <;> rfl
  | x :: t, n + 2, v => by
    rw [zs1, zs1_eq t (n + 1) v]
    simp [zkl]
theorem zs2_eq : ∀ (L : List zAV) (i : Nat) (v : zAV), zs2 L i v = ((zkl L i).set i v).set (i + 1) vU
  | [], i, v => by cases i <;> simp [zs2, zkl]
  | [x], 0, v => rfl
  | x :: y :: t, 0, v => rfl
  | x :: t, 1, v => by
    rw [zs2, zs2_eq t 0 v]
    simp [zkl]
  | x :: t, n + 2, v => by
    rw [zs2, zs2_eq t (n + 1) v]
    simp [zkl]
theorem zvs_getD {X : zX} {L : List zAV} (h : ∀ w ∈ L, zval X w) (n : Nat) : zval X (zgt L n) := by
  rw [zgt_eq, List.getD_eq_getElem?_getD]
  cases e : L[n]? with
  | none => trivial
  | some v => exact h v (List.mem_of_getElem? e)
theorem zvs_set {X : zX} {L : List zAV} (h : ∀ w ∈ L, zval X w) (n : Nat) {v : zAV} (hv : zval X v) : ∀ w ∈ L.set n v, zval X w := fun w hw => by
  rcases List.mem_or_eq_of_mem_set hw with q | q
  · exact h w q
  · rw [q]; exact hv
theorem zval_kp {X : zX} {v : zAV} (h : zval X v) : zval X (zkp v) := by
  unfold zkp
  split
  · trivial
  · exact h
theorem zvs_kl {X : zX} {L : List zAV} (h : ∀ w ∈ L, zval X w) (n : Nat) : ∀ w ∈ zkl L n, zval X w := by
  cases n with
  | zero => exact h
  | succ j =>
    have := zvs_getD h j
    rw [zgt_eq] at this
    exact zvs_set h j (zval_kp this)
theorem zvs_s1 {X : zX} {L : List zAV} (h : ∀ w ∈ L, zval X w) (n : Nat) {v : zAV} (hv : zval X v) : ∀ w ∈ zs1 L n v, zval X w := by
  rw [zs1_eq]
  exact zvs_set (zvs_kl h n) n hv
theorem zvs_s2 {X : zX} {L : List zAV} (h : ∀ w ∈ L, zval X w) (n : Nat) {v : zAV} (hv : zval X v) : ∀ w ∈ zs2 L n v, zval X w := by
  rw [zs2_eq]
  exact zvs_set (zvs_set (zvs_kl h n) n hv) (n + 1) trivial
theorem zvs_app {X : zX} {L st : List zAV} (h : ∀ w ∈ L, zval X w) (h2 : ∀ w ∈ st, zval X w) : ∀ w ∈ L ++ st, zval X w := fun w hw => (List.mem_append.mp hw).elim (h w) (h2 w)
theorem zls_ld {ad : Nat → Nat → Nat} {ls : Array Slot} {n : Nat} {L : List zAV} (h : zls ad ls n L) {i : Nat} {v : zAV} (hv : zgt L i = v) (hu : v ≠ vU) : ls[i]? = some (.val (cV ad v)) := by
  rw [zgt_eq, List.getD_eq_getElem?_getD] at hv
  cases e : L[i]? with
  | none => rw [e] at hv; exact absurd hv.symm hu
  | some w =>
    rw [e] at hv
    have hw : w = v := hv
    subst hw
    exact h.2.2.2 i w e hu
theorem cV_cat1 {ad : Nat → Nat → Nat} {v : zAV} (h : zc1 v = true) : (cV ad v).category = 1 := by
  rcases v with x | x | q | u
  · rfl
  · exact absurd h (by simp [zc1])
  · rfl
  · rfl
theorem zcs_sum (ad : Nat → Nat → Nat) (st : List zAV) : ((st.map (cV ad)).map fun v => v.category).sum = zcs st := by
  induction st with
  | nil => rfl
  | cons v t ih =>
    rw [List.map_cons, List.map_cons, List.sum_cons, ih]
    rcases v with x | x | q | u <;> rfl
/-- the kit's list of locals, out of mine -/
def zlv (ad : Nat → Nat → Nat) (L : List zAV) : List (Nat × Value) := (List.range L.length).filterMap fun i => if L.getD i vU = vU then none else some (i, cV ad (L.getD i vU))
theorem zlv_mem {ad : Nat → Nat → Nat} {L : List zAV} {i : Nat} {v : zAV} (h : L[i]? = some v) (hu : v ≠ vU) : (i, cV ad v) ∈ zlv ad L := by
  have hi : i < L.length := (List.getElem?_eq_some_iff.mp h).1
  have e : L.getD i vU = v := by rw [List.getD_eq_getElem?_getD, h]; rfl
  refine List.mem_filterMap.mpr ⟨i, List.mem_range.mpr hi, ?_⟩
  rw [e, if_neg hu]
theorem zls_has {ad : Nat → Nat → Nat} {ls : Array Slot} {n : Nat} {L : List zAV} (h : zls ad ls n L) : lv_has ls n (zlv ad L) := by
  refine ⟨h.1, h.2.1, fun q hq => ?_⟩
  obtain ⟨i, hi, e⟩ := List.mem_filterMap.mp hq
  have hi := List.mem_range.mp hi
  split at e
  · cases e
  · rename_i hne
    cases e
    exact zls_ld h (zgt_eq L i) hne
theorem zkp_ne {v : zAV} (h : zkp v ≠ vU) : zkp v = v ∧ zc1 v = true := by
  rcases v with x | x | q | u
  · exact ⟨rfl, rfl⟩
  · exact absurd rfl h
  · exact ⟨rfl, rfl⟩
  · exact absurd rfl h
theorem zkl_len (L : List zAV) (i : Nat) : (zkl L i).length = L.length := by cases i <;> simp [zkl]
theorem zkl_at {L : List zAV} {i t : Nat} {v : zAV} (h : (zkl L i)[t]? = some v) (hu : v ≠ vU) : L[t]? = some v ∧ (t + 1 = i → zc1 v = true) := by
  cases i with
  | zero => exact ⟨h, fun e => by omega⟩
  | succ j =>
    rw [zkl, List.getElem?_set] at h
    by_cases e : j = t
    · subst e
      by_cases hj : j < L.length
      · rw [if_pos rfl, if_pos hj] at h
        have hv : zkp (L.getD j vU) = v := Option.some.inj h
        have hn : zkp (L.getD j vU) ≠ vU := by rw [hv]; exact hu
        obtain ⟨h1, h2⟩ := zkp_ne hn
        rw [h1] at hv
        have h3 : L[j]? = some (L.getD j vU) := by rw [List.getD_eq_getElem?_getD, List.getElem?_eq_getElem hj]; rfl
        rw [hv] at h3 h2
        exact ⟨h3, fun _ => h2⟩
      · rw [if_pos rfl, if_neg hj] at h
        cases h
    · rw [if_neg e] at h
      exact ⟨h, fun e2 => absurd (by omega) e⟩
theorem zls_s1 {ad : Nat → Nat → Nat} {ls' : Array Slot} {n : Nat} {L : List zAV} {i : Nat} {v : zAV} (hlen : L.length = n) (h : lv_has ls' n ((i, cV ad v) :: (zlv ad L).filter (fun q => !(q.1 == i) && !(q.1 + 1 == i && q.2.category == 2)))) : zls ad ls' n (zs1 L i v) := by
  refine ⟨h.1, h.2.1, by simp [zs1_eq, zkl_len, hlen], fun t w hw hu => ?_⟩
  rw [zs1_eq, List.getElem?_set] at hw
  by_cases e : i = t
  · subst e
    rw [if_pos rfl] at hw
    split at hw
    · have hvw : v = w := Option.some.inj hw
      subst hvw
      exact h.2.2 (i, cV ad v) List.mem_cons_self
    · cases hw
  · rw [if_neg e] at hw
    obtain ⟨h1, h2⟩ := zkl_at hw hu
    refine h.2.2 (t, cV ad w) (List.mem_cons_of_mem _ (List.mem_filter.mpr ⟨zlv_mem h1 hu, ?_⟩))
    have e1 : (t == i) = false := by simp; omega
    by_cases e2 : t + 1 = i
    · have e3 : ((cV ad w).category == 2) = false := by rw [cV_cat1 (h2 e2)]; rfl
      simp [e1, e3]
    · simp [e1, e2]
theorem zls_s2 {ad : Nat → Nat → Nat} {ls' : Array Slot} {n : Nat} {L : List zAV} {i : Nat} {v : zAV} (hlen : L.length = n) (h : lv_has ls' n ((i, cV ad v) :: (zlv ad L).filter (fun q => !(q.1 == i) && (!(q.1 == i + 1) && !(q.1 + 1 == i && q.2.category == 2))))) : zls ad ls' n (zs2 L i v) := by
  refine ⟨h.1, h.2.1, by simp [zs2_eq, zkl_len, hlen], fun t w hw hu => ?_⟩
  rw [zs2_eq, List.getElem?_set] at hw
  by_cases e0 : i + 1 = t
  · rw [if_pos e0] at hw
    split at hw
    · exact absurd (Option.some.inj hw).symm hu
    · cases hw
  rw [if_neg e0, List.getElem?_set] at hw
  by_cases e : i = t
  · subst e
    rw [if_pos rfl] at hw
    split at hw
    · have hvw : v = w := Option.some.inj hw
      subst hvw
      exact h.2.2 (i, cV ad v) List.mem_cons_self
    · cases hw
  · rw [if_neg e] at hw
    obtain ⟨h1, h2⟩ := zkl_at hw hu
    refine h.2.2 (t, cV ad w) (List.mem_cons_of_mem _ (List.mem_filter.mpr ⟨zlv_mem h1 hu, ?_⟩))
    have e1 : (t == i) = false := by simp; omega
    have e1' : (t == i + 1) = false := by simp; omega
    by_cases e2 : t + 1 = i
    · have e3 : ((cV ad w).category == 2) = false := by rw [cV_cat1 (h2 e2)]; rfl
      simp [e1, e1', e3]
    · simp [e1, e1', e2]
/-- a cell of the world: where it stands in the list -/
theorem zw_at {X : zX} {k i : Nat} (h : (k, i) ∈ zdm X) (σ : zH) : ∃ q0 : Nat, (zdm X)[q0]? = some (k, i) ∧ (zw X σ)[q0]? = some (zad X k i, zent X σ k i) := by
  obtain ⟨q0, hq⟩ := List.getElem?_of_mem h
  exact ⟨q0, hq, by rw [zw, List.getElem?_map, hq]; rfl⟩
theorem zw_D {X : zX} (h : zOK X) (σ : zH) : va_D (zA X) (zw X σ) := by
  refine ⟨fun i j p q hi hj e => ?_, fun k q hk => ?_⟩
  · rw [zw, List.getElem?_map] at hi hj
    obtain ⟨p', hp', rfl⟩ := Option.map_eq_some_iff.mp hi
    obtain ⟨q', hq', rfl⟩ := Option.map_eq_some_iff.mp hj
    exact h.1 i j p' q' hp' hq' e
  · rw [zw, List.getElem?_map] at hk
    obtain ⟨q', hq', rfl⟩ := Option.map_eq_some_iff.mp hk
    exact ⟨q', List.mem_of_getElem? hq', rfl⟩
/-- one cell has changed -/
theorem zw_set {X : zX} (h : zOK X) {σ σ' : zH} {k i q0 : Nat} {H1 : Heap} {e : va_E} (hq : (zdm X)[q0]? = some (k, i)) (he : zent X σ' k i = e) (ho : ∀ k' i', ¬ (k' = k ∧ i' = i) → zent X σ' k' i' = zent X σ k' i')
    (hP : va_P (zD X) zcls ((zw X σ).set q0 (zad X k i, e)) H1) : va_P (zD X) zcls (zw X σ') H1 := by
  intro t q ht
  rw [zw, List.getElem?_map] at ht
  obtain ⟨p, hp, rfl⟩ := Option.map_eq_some_iff.mp ht
  have hlt : t < (zdm X).length := (List.getElem?_eq_some_iff.mp hp).1
  refine hP t _ ?_
  rw [List.getElem?_set]
  by_cases ee : q0 = t
  · subst ee
    rw [if_pos rfl, if_pos (by simpa [zw] using hlt)]
    rw [hq] at hp
    cases hp
    rw [← he]
  · rw [if_neg ee, zw, List.getElem?_map, hp]
    have hne : ¬ (p.1 = k ∧ p.2 = i) := fun hc => ee (h.1 q0 t (k, i) p hq hp (by rw [hc.1, hc.2]))
    rw [ho p.1 p.2 hne]
    rfl
theorem zclo_mem {dm : List (Nat × Nat)} {q : Nat × Nat} (h : dm.contains q = true) : q ∈ dm := by simpa using h
