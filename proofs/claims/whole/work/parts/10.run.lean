/-! rows of instructions, jumps, a method's contract out of its walk -/
theorem zisn_nop {i : Instr} (h : zisn i = true) : i = .nop := by
  cases i <;> first | rfl | cases h
def zchB (m : Nat) (bl : List (Nat × List zEnt)) : Bool := bl.all fun q => zchL m q.1 q.2
def zflat : List zAV → List zAV
  | [] => []
  | .inr (.inl x) :: t => vL x :: vU :: zflat t
  | v :: t => v :: zflat t
def zloc (av : List zAV) (n : Nat) : List zAV := zflat av ++ List.replicate (n - (zflat av).length) vU
section
variable {ρ : Type} {X : zX} {m : Nat} {kr : zH → zAV → Option ρ} {C : Nat → zH → List zAV → (zH → zAV → Option ρ) → Option ρ} {J : Nat → Option (zH → List zAV → List zAV → Option ρ)} {G : Nat → zH → List zAV → List zAV → Option ρ} {bl : List (Nat × List zEnt)}
theorem zev_ok (hY : zHY X m C) (HG : ∀ t σ L st r, G t σ L st = some r → zGW X m kr t σ L st r) : ∀ (es : List zEnt) (pc : Nat), zchL m pc es = true → ∀ σ L st r, zev C G (mRc m) kr es σ L st = some r → zGW X m kr pc σ L st r
  | [], pc, _, σ, L, st, r, h => by cases h
  | e :: es, pc, hc, σ, L, st, r, h => by
    rw [zchL, Bool.and_eq_true, decide_eq_true_eq] at hc
    obtain ⟨rfl, hc⟩ := hc
    cases hi : zisn e.2.1 with
    | true =>
      obtain ⟨pc, i, n, ⟨a, b, ww, u⟩, cf, k32, k64, sw⟩ := e
      have := zisn_nop hi
      dsimp only at this
      subst this
      exact HG _ _ _ _ _ h
    | false =>
      rw [hi, Bool.false_or, Bool.and_eq_true, Bool.or_eq_true] at hc
      refine zev_one hY HG hc.1 (fun ht => ?_) h
      exact zev_ok hY HG es _ (hc.2.resolve_left (by rw [ht]; exact Bool.false_ne_true))
theorem zlk_all {α : Type} {P : Nat → α → Prop} : ∀ (bl : List (Nat × α)), (∀ q ∈ bl, P q.1 q.2) → ∀ t x, zlk bl t = some x → P t x
  | [], _, t, x, h => by cases h
  | q :: bl, hb, t, x, h => by
    obtain ⟨a, y⟩ := q
    rw [zlk] at h
    cases e : a == t with
    | true =>
      rw [e] at h
      cases h
      have e : a = t := by simpa using e
      subst e
      exact hb (a, x) List.mem_cons_self
    | false =>
      rw [e] at h
      exact zlk_all bl (fun q hq => hb q (List.mem_cons_of_mem _ hq)) t x h
theorem zrun_ok (hY : zHY X m C) (hb : zchB m bl = true) (hJ : ∀ t f, J t = some f → ∀ σ L st r, f σ L st = some r → zGW X m kr t σ L st r) : ∀ (n t : Nat) σ L st r, zrun C J (mRc m) kr bl n t σ L st = some r → zGW X m kr t σ L st r
  | 0, t, σ, L, st, r, h => by cases h
  | n + 1, t, σ, L, st, r, h => by
    rw [zrun] at h
    cases hj : J t with
    | some f =>
      rw [hj] at h
      exact hJ t f hj σ L st r h
    | none =>
      rw [hj] at h
      cases hk : zlk bl t with
      | none =>
        rw [hk] at h
        cases h
      | some es =>
        rw [hk] at h
        exact zev_ok hY (zrun_ok hY hb hJ n) es t (zlk_all (P := fun t es => zchL m t es = true) bl (fun q hq => List.all_eq_true.mp hb q hq) t es hk) σ L st r h
theorem zin_ok (hY : zHY X m C) (hb : zchB m bl = true) (hJ : ∀ t f, J t = some f → ∀ σ L st r, f σ L st = some r → zGW X m kr t σ L st r) {t : Nat} {σ : zH} {L st : List zAV} {r : ρ} (h : zin C J (mRc m) kr bl t σ L st = some r) : zGW X m kr t σ L st r := by
  unfold zin at h
  cases hk : zlk bl t with
  | none =>
    rw [hk] at h
    cases h
  | some es =>
    rw [hk] at h
    exact zev_ok hY (zrun_ok hY hb hJ 60) es t (zlk_all (P := fun t es => zchL m t es = true) bl (fun q hq => List.all_eq_true.mp hb q hq) t es hk) σ L st r h
end
theorem zflat_args {ad : Nat → Nat → Nat} : ∀ (av : List zAV) (k i : Nat) (v : zAV), (zflat av)[i]? = some v → v ≠ vU → (k + i, cV ad v) ∈ lv_args k (av.map (cV ad))
  | [], k, i, v, h, _ => by cases h
  | w :: t, k, i, v, h, hu => by
    rw [List.map_cons, lv_args]
    rcases w with x | x | x | x
    · cases i with
      | zero => cases h; exact List.mem_cons_self
      | succ i =>
        have := zflat_args (ad := ad) t (k + 1) i v h hu
        rw [show k + 1 + i = k + (i + 1) by omega] at this
        exact List.mem_cons_of_mem _ this
    · match i, h with
      | 0, h => cases h; exact List.mem_cons_self
      | 1, h => cases h; exact absurd rfl hu
      | i + 2, h =>
        have := zflat_args (ad := ad) t (k + 2) i v h hu
        rw [show k + 2 + i = k + (i + 2) by omega] at this
        exact List.mem_cons_of_mem _ this
    · cases i with
      | zero => cases h; exact List.mem_cons_self
      | succ i =>
        have := zflat_args (ad := ad) t (k + 1) i v h hu
        rw [show k + 1 + i = k + (i + 1) by omega] at this
        exact List.mem_cons_of_mem _ this
    · cases i with
      | zero => cases h; exact absurd rfl hu
      | succ i =>
        have := zflat_args (ad := ad) t (k + 1) i v h hu
        rw [show k + 1 + i = k + (i + 1) by omega] at this
        exact List.mem_cons_of_mem _ this
theorem zflat_len {ad : Nat → Nat → Nat} : ∀ av : List zAV, (lg_sl (av.map (cV ad))).length = (zflat av).length
  | [] => rfl
  | w :: t => by
    have ih := zflat_len (ad := ad) t
    unfold lg_sl at ih ⊢
    rw [List.map_cons, List.flatMap_cons, List.length_append, ih]
    rcases w with x | x | x | x
    · show 1 + _ = _ + 1; omega
    · show 2 + _ = _ + 1 + 1; omega
    · show 1 + _ = _ + 1; omega
    · show 1 + _ = _ + 1; omega
/-- a method's contract -/
theorem zmeth {ρ : Type} {X : zX} {m : Nat} {kr : zH → zAV → Option ρ} {σ : zH} {av : List zAV} {r : ρ} (hm : zmok m) (hl : (zflat av).length ≤ mL m) (hv : ∀ a ∈ av, zval X a) (h : zGW X m kr 0 σ (zloc av (mL m)) [] r) :
    ∃ σ' v, kr σ' v = some r ∧ zval X v ∧ zMet X m σ av σ' v := by
  have hva : ∀ w ∈ zloc av (mL m) ++ [], zval X w := by
    rw [List.append_nil]
    refine zvs_app ?_ (fun w hw => by rw [List.eq_of_mem_replicate hw]; trivial)
    clear h hl
    induction av with
    | nil => intro w hw; cases hw
    | cons v t ih =>
      have h1 := ih (fun a ha => hv a (List.mem_cons_of_mem _ ha))
      have h2 := hv v List.mem_cons_self
      rcases v with x | x | x | x
      · exact zvs_cons h2 h1
      · exact zvs_cons h2 (zvs_cons trivial h1)
      · exact zvs_cons h2 h1
      · exact zvs_cons h2 h1
  obtain ⟨σ', v, h1, h2, h3⟩ := h hva
  refine ⟨σ', v, h1, h2, ?_⟩
  have hmo := hm.1
  unfold zmokA at hmo
  simp only [Bool.and_eq_true, decide_eq_true_eq] at hmo
  refine Met.ofW (cc := mB m) (maxL := mL m) (ret := mR m) hmo.1.2 rfl ?_
  intro p e s mi args below meth c s₁ B hml hpc
  obtain ⟨rfl, hK, hP, hS⟩ := hpc
  have hts := atoms_spec (ws := zws m) B.pre
  have hown : s.vm.findClass (mY m).cls = some mi.cls := findClass_of_methodNamed B.named
  rw [lg_entry_eq]
  have hln := zflat_len (ad := zad X) av
  have hle := lv_entry (av.map (cV (zad X))) (n := mL m) (by rw [hln]; exact hl)
  refine h3 p e s mi _ below meth c s.heap [] _ ⟨B.exec, B.bytes, hml, B.returns, hown, fun w hw => hts w (List.mem_cons_of_mem _ hw), B.notSynchronized, hK, hS⟩ ⟨⟨hle.1, hle.2.1, ?_, fun i w hw hu => ?_⟩, hP, va_S.rf⟩
  · rw [zloc, List.length_append, List.length_replicate]; omega
  · rw [zloc, List.getElem?_append] at hw
    split at hw
    · have := zflat_args (ad := zad X) av 0 i w hw hu
      rw [Nat.zero_add] at this
      exact hle.2.2 _ this
    · rw [List.getElem?_replicate] at hw
      split at hw
      · cases hw; exact absurd rfl hu
      · cases hw
