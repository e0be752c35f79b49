/-! the machine of the constructors and the walk -/
def nFr (base : Nat) : Nat → Prop := fun q => base ≤ q
def nNs (s : State) : Prop := (∀ a i x h, (Cond.methodLinkNest a i x h) ∈ nNW → va_Nw (.methodLinkNest a i x h) s) ∧ ∀ t, 4 ≤ t → t < 7 → va_AO (nqN t) s
def nrm (y K S : Nat) : Room := { frames := nd y, cells := K, slots := S, locals := 30 * nd y }
def nws (y : Nat) : List Cond := Cond.code (nY y) (nB y) (nL y) none :: lw_good
def nPU (X : zX) (base : Nat) (al : Nat → Nat) (cs : List nw_C) (U : State) : Prop := va_K (zD X) zcls (ztys X) U ∧ va_P (zD X) zcls (nw_W X al cs) U.heap ∧ va_D (nFr base) (nw_W X al cs) ∧ nNs U ∧ base ≤ U.heap.size
def nQ (X : zX) (base : Nat) (al0 : Nat → Nat) (n0 : Nat) (cs' : List nw_C) : Array Value → State → Outcome → State → Prop := va_Qv (S := Nat → Nat) (fun al' => ∀ i, i < n0 → al' i = al0 i) (fun al' t => va_P (zD X) zcls (nw_W X al' cs') t.heap ∧ va_D (nFr base) (nw_W X al' cs')) (nFr base)
def nMet (X : zX) (base y : Nat) (al : Nat → Nat) (cs : List nw_C) (av : List zAV) (cs' : List nw_C) (K S : Nat) : Prop :=
  Met (zl X) (nY y) (nws y) (nrm y K S) (va_Pc (av.map (cV (nw_ad al))) (nPU X base al cs)) (nQ X base al cs.length cs') K S (nFr base)
def nCx (X : zX) (base y : Nat) (p : Program) (s : State) (args : Array Value) (mi : MethodId) (meth : Method) (c : Code) : Prop :=
  p.tables.exec = Jvm.exec ∧ c.code = nB y ∧ c.maxLocals = nL y ∧ meth.sig.returnType = none ∧ s.vm.findClass (nY y).cls = some mi.cls ∧ (∀ w ∈ lw_good, w.before args s = true) ∧ meth.locks = false ∧ meth.name = "<init>" ∧ va_K (zD X) zcls (ztys X) s ∧ nNs s ∧ base ≤ s.heap.size
def nAt (X : zX) (base y : Nat) (al : Nat → Nat) (cs : List nw_C) (s : State) (H : Heap) (locs : List Loc) (ls : Array Slot) (L : List zAV) : Prop :=
  zls (nw_ad al) ls (nL y) L ∧ va_P (zD X) zcls (nw_W X al cs) H ∧ va_D (nFr base) (nw_W X al cs) ∧ va_S (nFr base) s.heap H locs
def nG (X : zX) (base y : Nat) (cs' : List nw_C) (K S : Nat) (es : List nw_r) (cs : List nw_C) (L st : List zAV) (kc ks : Nat) : Prop :=
  ∀ (al0 : Nat → Nat) (n0 : Nat) (al : Nat → Nat) (p : Program) (e : Env) (s : State) (mi : MethodId) (args : Array Value) (below : List Frame) (meth : Method) (c : Code) (H : Heap) (locs : List Loc) (ls : Array Slot),
    n0 ≤ cs.length → (∀ i, i < n0 → al i = al0 i) → nw_o cs → nCx X base y p s args mi meth c → nAt X base y al cs s H locs ls L →
    W p (zl X) e (nrm y K S) s mi args below meth c H locs kc ks (MQ below (nQ X base al0 n0 cs') args s K S (nFr base)) (F0 mi (nw_pc es) ls (st.map (cV (nw_ad al))))
theorem nNs_blind {U : State} (h : nNs U) (g : JFrame) (mk : MethodId) (a : Array Value) : nNs (U.calling g mk a) :=
  ⟨fun a1 i x h1 hm => va_Nw.same rfl rfl (h.1 a1 i x h1 hm), fun t h4 h7 => h.2 t h4 h7⟩
theorem nNs_warm {s U : State} (hW : s.WarmedH U.vm) (h : nNs s) : nNs U := ⟨fun a i x h1 hm => (h.1 a i x h1 hm).warmM hW, fun t h4 h7 => (h.2 t h4 h7).moved hW.alike⟩
theorem nPU_blind (X : zX) (base : Nat) (al : Nat → Nat) (cs : List nw_C) (av : List Value) : FrameBlind (va_Pc av (nPU X base al cs)) := fun a U g mk h => ⟨h.1, h.2.1, h.2.2.1, h.2.2.2.1, nNs_blind h.2.2.2.2.1 g mk a, h.2.2.2.2.2⟩
theorem nRA_eq {U : State} {c1 c2 : ClassId} {ty : FieldType} (h1 : va_RA U c1 ty) (h2 : va_RA U c2 ty) : c1 = c2 := by
  cases ty with
  | object C =>
    obtain ⟨_, _, -, -, -, e1⟩ := h1
    obtain ⟨_, _, -, -, -, e2⟩ := h2
    exact Option.some.inj (e1.symm.trans e2)
  | _ => exact Option.some.inj (h1.symm.trans h2)
theorem nK_eq {D : va_G} {X : zX} {U : State} {cA : ClassId} {t : Nat} (ht : t < 7) (h : va_K D zcls (ztys X ++ [(cA, tyF t)]) U) : cA = zcA X t := by
  have h1 := (h.2 t (zcA X t, tyF t) (by rw [List.getElem?_append_left (by simp [ztys]; omega)]; exact ztys_at X ht)).2
  have h2 := (h.2 7 (cA, tyF t) (by rw [List.getElem?_append_right (by simp [ztys])]; simp [ztys])).2
  exact nRA_eq h2 h1
theorem nw_len7 (X : zX) : (ztys X).length = 7 := by simp [ztys]
section
variable {X : zX} {base y : Nat} {cs' : List nw_C} {K S : Nat} {es es' : List nw_r} {cs : List nw_C} {L st st' : List zAV} {kc ks : Nat}
/-- a step that leaves the world and the locals -/
theorem nG.pure (h : nG X base y cs' K S es' cs L st' kc ks)
    (hs : ∀ (al : Nat → Nat) (p : Program) (e : Env) (s : State) (mi : MethodId) (args : Array Value) (below : List Frame) (meth : Method) (c : Code) (H : Heap) (locs : List Loc) (ls : Array Slot) (Q : State → Prop),
      nCx X base y p s args mi meth c → nAt X base y al cs s H locs ls L → W p (zl X) e (nrm y K S) s mi args below meth c H locs kc ks Q (F0 mi (nw_pc es') ls (st'.map (cV (nw_ad al)))) →
      W p (zl X) e (nrm y K S) s mi args below meth c H locs kc ks Q (F0 mi (nw_pc es) ls (st.map (cV (nw_ad al))))) : nG X base y cs' K S es cs L st kc ks :=
  fun al0 n0 al p e s mi args below meth c H locs ls hn ha ho hC hA => hs al p e s mi args below meth c H locs ls _ hC hA (h al0 n0 al p e s mi args below meth c H locs ls hn ha ho hC hA)
/-- a step that leaves the addresses -/
theorem nG.put {cs1 : List nw_C} {L' : List zAV} (h : nG X base y cs' K S es' cs1 L' st' kc ks) (hl : cs.length ≤ cs1.length) (hno : nw_o cs → nw_o cs1)
    (hs : ∀ (al : Nat → Nat) (p : Program) (e : Env) (s : State) (mi : MethodId) (args : Array Value) (below : List Frame) (meth : Method) (c : Code) (H : Heap) (locs : List Loc) (ls : Array Slot) (Q : State → Prop),
      nCx X base y p s args mi meth c → nAt X base y al cs s H locs ls L → (∀ (H1 : Heap) (locs1 : List Loc) (ls1 : Array Slot), nAt X base y al cs1 s H1 locs1 ls1 L' → W p (zl X) e (nrm y K S) s mi args below meth c H1 locs1 kc ks Q (F0 mi (nw_pc es') ls1 (st'.map (cV (nw_ad al))))) →
      W p (zl X) e (nrm y K S) s mi args below meth c H locs kc ks Q (F0 mi (nw_pc es) ls (st.map (cV (nw_ad al))))) : nG X base y cs' K S es cs L st kc ks :=
  fun al0 n0 al p e s mi args below meth c H locs ls hn ha ho hC hA => hs al p e s mi args below meth c H locs ls _ hC hA (fun H1 locs1 ls1 hA1 => h al0 n0 al p e s mi args below meth c H1 locs1 ls1 (Nat.le_trans hn hl) ha (hno ho) hC hA1)
/-- a step that makes a cell -/
theorem nG.push {c0 : nw_C} {n : Nat} {t : List zAV} (h : nG X base y cs' K S es' (cs ++ [c0]) L (vR 0 cs.length :: t) (kc + 1) (ks + n)) (hL : L.all (nw_v cs.length) = true) (ht : t.all (nw_v cs.length) = true) (hc0 : nw_k cs.length c0 = true)
    (hs : ∀ (al : Nat → Nat) (p : Program) (e : Env) (s : State) (mi : MethodId) (args : Array Value) (below : List Frame) (meth : Method) (c : Code) (H : Heap) (locs : List Loc) (ls : Array Slot) (Q : State → Prop),
      nCx X base y p s args mi meth c → nAt X base y al cs s H locs ls L → (∀ (q : Nat) (H1 : Heap), va_P (zD X) zcls (nw_W X al cs ++ [(q, nw_e X al c0)]) H1 → va_D (nFr base) (nw_W X al cs ++ [(q, nw_e X al c0)]) → va_S (nFr base) s.heap H1 locs →
        W p (zl X) e (nrm y K S) s mi args below meth c H1 locs (kc + 1) (ks + n) Q (F0 mi (nw_pc es') ls (.ref q :: t.map (cV (nw_ad al))))) →
      W p (zl X) e (nrm y K S) s mi args below meth c H locs kc ks Q (F0 mi (nw_pc es) ls (st.map (cV (nw_ad al))))) : nG X base y cs' K S es cs L st kc ks := by
  intro al0 n0 al p e s mi args below meth c H locs ls hn ha ho hC hA
  refine hs al p e s mi args below meth c H locs ls _ hC hA (fun q H1 hP1 hD1 hS1 => ?_)
  have hag : ∀ i, i < cs.length → (fun i => if i = cs.length then q else al i) i = al i := fun i hi => if_neg (by omega)
  have he := nw_e_al (X := X) hag hc0
  have hp := nw_push (X := X) (al := al) ho c0 q
  have h1 := h al0 n0 (fun i => if i = cs.length then q else al i) p e s mi args below meth c H1 locs ls (by rw [List.length_append]; omega) (fun i hi => (hag i (by omega)).trans (ha i hi)) (nw_o_push ho (nw_k_le (Nat.le_succ _) hc0)) hC
    ⟨nw_zls hag hL hA.1, by rw [hp, he]; exact hP1, by rw [hp, he]; exact hD1, hS1⟩
  have e1 : (vR 0 cs.length :: t).map (cV (nw_ad fun i => if i = cs.length then q else al i)) = .ref q :: t.map (cV (nw_ad al)) := by
    rw [List.map_cons, nw_map hag ht]
    have : cV (nw_ad fun i => if i = cs.length then q else al i) (vR 0 cs.length) = .ref q := congrArg Value.ref (if_pos rfl)
    rw [this]
  rw [e1] at h1
  exact h1
end
theorem nok_dec {y pc o a b : Nat} {z : Int} {w : List Nat} (h : nok y (pc, o, a, b, z, w) = true) : decode (nB y) pc = .ok (nwI (pc, o, a, b, z, w)) ∧ nwk y (pc, o, a, b, z, w) = true := by
  unfold nok at h
  rw [Bool.and_eq_true, decide_eq_true_eq] at h
  exact h
theorem nsq_nx {r : nw_r} {es : List nw_r} (h : nsq (r :: es) = true) (h16 : r.2.1 ≠ 16) (h17 : r.2.1 ≠ 17) : nw_pc es = r.1 + (nwI r).2 := by
  have h : ((decide (r.2.1 = 16) || decide (r.2.1 = 17) || (match es with | [] => false | q :: _ => decide (q.1 = r.1 + (nwI r).2))) && nsq es) = true := by
    cases es <;> exact h
  rw [Bool.and_eq_true, Bool.or_eq_true, Bool.or_eq_true, decide_eq_true_eq, decide_eq_true_eq] at h
  have h1 := h.1.resolve_left (fun q => q.elim h16 h17)
  cases es with
  | nil => cases h1
  | cons q t => exact of_decide_eq_true h1
theorem nsq_tl {r : nw_r} {es : List nw_r} (h : nsq (r :: es) = true) : nsq es = true := by
  cases es with
  | nil => rfl
  | cons q t => exact (nand2 h).2
theorem nfind_ok {p : nw_r → Bool} {t : Nat} : ∀ es : List nw_r, es.all p = true → nsq es = true → (nw_find t es).all p = true ∧ nsq (nw_find t es) = true
  | [], h, h2 => ⟨h, h2⟩
  | r :: es, h, h2 => by
    rw [nw_find]
    split
    · exact ⟨h, h2⟩
    · rw [List.all_cons, Bool.and_eq_true] at h
      exact nfind_ok es h.2 (nsq_tl h2)
theorem nfind_pc {t : Nat} : ∀ es : List nw_r, nw_find t es = [] ∨ nw_pc (nw_find t es) = t
  | [] => Or.inl rfl
  | r :: es => by
    rw [nw_find]
    split
    · rename_i h
      exact Or.inr h
    · exact nfind_pc es
