/-! CALLS: law, both sides step by step -/
def cstep (σ σ' : zH) : Prop := ¬ σ.1 5 0 2 = 5 ∧ σ.1 7 0 5 = 0 ∧ ∃ τ, d_X7_next σ = some τ ∧ d_X5_take τ = some σ'
def cgo : Nat → zH → zH → Prop
  | 0, a, c => a = c
  | n + 1, a, c => ∃ d, cstep a d ∧ cgo n d c
theorem cgo_app : ∀ {n m : Nat} {a c d : zH}, cgo n a c → cgo m c d → cgo (n + m) a d
  | 0, m, a, c, d, h, h2 => by rw [Nat.zero_add]; cases h; exact h2
  | n + 1, m, a, c, d, ⟨e, h, h2⟩, h3 => by
    rw [show n + 1 + m = (n + m) + 1 by omega]
    exact ⟨e, h, cgo_app h2 h3⟩
theorem cgo_1 {a c : zH} (h : cstep a c) : cgo 1 a c := ⟨c, h, rfl⟩
def n9 : List qop → Nat
  | [] => 0
  | q :: c => (if q.1 = 9 then 1 else 0) + n9 c
theorem n9_app : ∀ c d : List qop, n9 (c ++ d) = n9 c + n9 d
  | [], d => by simp [n9]
  | q :: c, d => by rw [List.cons_append, n9, n9, n9_app c d]; omega
theorem qps_app : ∀ c d : List qop, qps (c ++ d) = qps c + qps d
  | [], d => by simp [qps]
  | q :: c, d => by rw [List.cons_append, qps, qps, qps_app c d]; omega
theorem qty_one (q : qop) (c : List qop) (ts : List Bool) : qty (q :: c) ts = (qty [q] ts).bind (qty c) := by
  obtain ⟨op, a⟩ := q
  by_cases h0 : op = 0
  · simp [qty, h0]
  by_cases h1 : op = 1
  · by_cases h2 : 0 ≤ a.toInt ∧ a.toInt ≤ 9
    · simp [qty, h1, h2]
    · simp [qty, h1, h2]
  by_cases h9 : op = 9
  · rcases ts with _ | ⟨_ | _, _⟩ <;> simp [qty, h9]
  by_cases h10 : op = 10 ∨ op = 11
  · rcases ts with _ | ⟨_ | _, _ | ⟨_ | _, _⟩⟩ <;> simp [qty, h0, h1, h9, h10]
  by_cases h4 : 4 ≤ op ∧ op ≤ 8
  · rcases ts with _ | ⟨_ | _, _ | ⟨_ | _, _⟩⟩ <;> simp [qty, h0, h1, h9, h10, h4]
  by_cases h2 : op = 2 ∨ op = 3 ∨ op = 13 ∨ op = 14 ∨ op = 15
  · rcases ts with _ | ⟨_ | _, _ | ⟨_ | _, _⟩⟩ <;> simp [qty, h0, h1, h9, h10, h4, h2]
  · simp [qty, h0, h1, h9, h10, h4, h2]
theorem qty_app : ∀ {c d : List qop} {ts u : List Bool}, qty c ts = some u → qty (c ++ d) ts = qty d u
  | [], d, ts, u, h => by cases h; rfl
  | q :: c, d, ts, u, h => by
    rw [qty_one] at h
    rw [List.cons_append, qty_one]
    cases e : qty [q] ts with
    | none => rw [e] at h; cases h
    | some w => rw [e] at h; exact qty_app h
theorem qty_len : ∀ {c : List qop} {ts u : List Bool}, qty c ts = some u → c.length + u.length = ts.length + 2 * qps c + n9 c
  | [], ts, u, h => by cases h; simp [qps, n9]
  | (op, a) :: c, ts, u, h => by
    have e1 : qps ((op, a) :: c) = (if op ≤ 1 then 1 else 0) + qps c := rfl
    have e2 : n9 ((op, a) :: c) = (if op = 9 then 1 else 0) + n9 c := rfl
    rw [List.length_cons, e1, e2]
    rcases qty_cons h with ⟨rfl, h'⟩ | ⟨rfl, -, -, h'⟩ | ⟨rfl, w, rfl, h'⟩ | ⟨hb, x, y, w, rfl, h', -⟩
    · have := qty_len h'
      rw [if_pos (by omega), if_neg (by omega)]
      simp only [List.length_cons] at this ⊢
      omega
    · have := qty_len h'
      rw [if_pos (by omega), if_neg (by omega)]
      simp only [List.length_cons] at this ⊢
      omega
    · have := qty_len h'
      rw [if_neg (by omega), if_pos rfl]
      simp only [List.length_cons] at this ⊢
      omega
    · have := qty_len h'
      unfold qbin at hb
      rw [if_neg (by omega), if_neg (by omega)]
      simp only [List.length_cons] at this ⊢
      omega
theorem ops_app (A C : List Nat) : ops (A ++ C) = ops A ++ ops C := by simp [ops]
/-- what holds of the numbers -/
def IV (B c0 N0 pc cnt : Nat) (g : List Nat) (cm : List qop) (ts : List Bool) : Prop := qty cm [] = some ts ∧ qps cm + c0 ≤ cnt ∧ cnt ≤ 60 ∧ 3 * (N0 + n9 cm + ctn 9 g) ≤ pc ∧ pc ≤ 400 ∧ B ≤ 2 * c0 + N0
theorem IV.len {B c0 N0 pc cnt : Nat} {g : List Nat} {cm : List qop} {ts : List Bool} (h : IV B c0 N0 pc cnt g cm ts) : B + cm.length + ts.length ≤ 260 := by
  obtain ⟨h1, h2, h3, h4, h5, h6⟩ := h
  have := qty_len h1
  simp only [List.length_nil] at this
  omega
theorem IV.up {B c0 N0 pc pc' cnt : Nat} {g : List Nat} {cm : List qop} {ts : List Bool} (h : IV B c0 N0 pc cnt g cm ts) (h1 : pc ≤ pc') (h2 : pc' ≤ 400) : IV B c0 N0 pc' cnt g cm ts := by
  obtain ⟨a1, a2, a3, a4, a5, a6⟩ := h
  exact ⟨a1, a2, a3, by omega, h2, a6⟩
/-- a binary operator of numbers -/
theorem qty_ar {op : Nat} (ho : arO op) (ts : List Bool) : qty [(op, 0)] (false :: false :: ts) = some (false :: ts) := by
  rcases ho with rfl | rfl | rfl | rfl | rfl <;> rfl
theorem qty_cm {op : Nat} (ho : cmO op) (ts : List Bool) : qty [(op, 0)] (false :: false :: ts) = some (true :: ts) := by
  rcases ho with rfl | rfl | rfl | rfl | rfl <;> rfl
theorem IV.op {B c0 N0 pc cnt : Nat} {g : List Nat} {cm : List qop} {ts ts' : List Bool} (h : IV B c0 N0 pc cnt g cm ts) {op : Nat} (h1 : 1 < op) (h9 : op ≠ 9) (hq : qty [(op, 0)] ts = some ts') : IV B c0 N0 pc cnt g (cm ++ [(op, 0)]) ts' := by
  obtain ⟨a1, a2, a3, a4, a5, a6⟩ := h
  refine ⟨by rw [qty_app a1]; exact hq, ?_, a3, ?_, a5, a6⟩
  · rw [qps_app]
    show qps cm + ((if op ≤ 1 then 1 else 0) + 0) + c0 ≤ cnt
    rw [if_neg (by omega)]; omega
  · rw [n9_app]
    show 3 * (N0 + (n9 cm + ((if op = 9 then 1 else 0) + 0)) + ctn 9 g) ≤ pc
    rw [if_neg h9]; omega
theorem vnm_ty {b : Nat → Int32} {t q : Nat} {v : qop} (h : vnm b t q = some v) (ts : List Bool) : qty [v] ts = some (false :: ts) ∧ v.1 ≤ 1 := by
  unfold vnm at h
  split at h
  · split at h
    · cases h; exact ⟨rfl, Nat.zero_le _⟩
    · cases h
  · split at h
    · rename_i h10
      cases h
      refine ⟨?_, Nat.le_refl _⟩
      unfold qty
      rw [if_neg (by decide), if_pos rfl, if_pos ⟨by rw [nI_toInt (by omega)]; omega, by rw [nI_toInt (by omega)]; omega⟩]
      rfl
    · cases h
theorem IV.val {B c0 N0 pc cnt : Nat} {g : List Nat} {cm : List qop} {ts : List Bool} (h : IV B c0 N0 pc cnt g cm ts) {b : Nat → Int32} {t q : Nat} {v : qop} (hv : vnm b t q = some v) (hc : cnt < 60) : IV B c0 N0 pc (cnt + 1) g (cm ++ [v]) (false :: ts) := by
  obtain ⟨a1, a2, a3, a4, a5, a6⟩ := h
  obtain ⟨v1, v2⟩ := vnm_ty hv ts
  refine ⟨by rw [qty_app a1]; exact v1, ?_, by omega, ?_, a5, a6⟩
  · rw [qps_app]
    show qps cm + ((if v.1 ≤ 1 then 1 else 0) + 0) + c0 ≤ cnt + 1
    rw [if_pos v2]; omega
  · rw [n9_app]
    show 3 * (N0 + (n9 cm + ((if v.1 = 9 then 1 else 0) + 0)) + ctn 9 g) ≤ pc
    rw [if_neg (by omega)]; omega
section
variable (b : Nat → Int32) (t : Nat) (c1 m1 : zH) (L B c0 N0 : Nat)
/-- both sides at one point of a clause; A: operators that the class holds, and the reference has entered -/
def PT (σc σm : zH) (pc pm : Nat) (ex sg : Int32) (cnt : Nat) (A h0 g : List Nat) (cc cm : List qop) (ts : List Bool) : Prop :=
  CC b t c1 L B σc pc ex sg cnt (A ++ h0) cc ∧ MM b t m1 L B σm pm cnt g cm ∧ cm = cc ++ ops A ∧ en isB b t pc = en isB b t pm ∧ IV B c0 N0 pc cnt g cm ts ∧ (A ++ h0).length ≤ pc
/-- both have met the same fault -/
def FT (m pc : Nat) (σc σm' : zH) : Prop := ∃ f k σc', ¬ f = 0 ∧ 0 ≤ f.toInt ∧ k + pc ≤ t + 1 ∧ cgo k σc σc' ∧ FC c1 L σc' f ∧ MF b t m1 L B m σm' f
end
section
variable {b : Nat → Int32} {t : Nat} {c1 m1 : zH} {L B c0 N0 : Nat} {σc σm : zH} {pc pm : Nat} {ex sg : Int32} {cnt : Nat} {A h0 h g : List Nat} {cc cm : List qop} {ts : List Bool}
theorem flt_ok {c : Int32} {q : Nat} (hq : q ≤ 401) (h1 : 0 ≤ c.toInt) (h2 : c.toInt ≤ 7) : ¬ flt 0 c q = 0 ∧ 0 ≤ (flt 0 c q).toInt := ⟨flt_n0 hq h1 h2, flt_nn hq h1 h2 (by decide)⟩
theorem FT.pre {m k : Nat} {σc' σm' : zH} {pc' : Nat} (h : FT b t c1 m1 L B m pc' σc' σm') (hs : cgo k σc σc') (hk : k + pc ≤ pc') : FT b t c1 m1 L B m pc σc σm' := by
  obtain ⟨f, k2, σc2, a1, a2, a3, a4, a5, a6⟩ := h
  exact ⟨f, k + k2, σc2, a1, a2, by omega, cgo_app hs a4, a5, a6⟩
theorem bsome {α : Type} (x : Option α) : (x.bind fun s => some s) = x := by cases x <;> rfl
/-- how the class comes to a VALUE -/
def VR (b : Nat → Int32) (t : Nat) (c1 : zH) (L B : Nat) (q : Nat) (ex sg sg2 : Int32) (cnt : Nat) (h : List Nat) (cc : List qop) : Prop := ¬ ex = 5 ∧ ∀ τ, tkn b t q τ → CC b t c1 L B τ (tkA b t q) ex sg cnt h cc → ∃ τ2 ex2, d_X5_take τ = d_X5_takeValue τ2 ∧ tkn b t q τ2 ∧ CC b t c1 L B τ2 (tkA b t q) ex2 sg2 cnt h cc
theorem VR_2 (q : Nat) : VR b t c1 L B q 2 sg sg cnt h cc := by
  refine ⟨by decide, fun τ k H => ⟨τ, 2, ?_, k, H⟩⟩
  unfold d_X5_take
  rw [H.2.2.1.2.2.1, if_neg (by decide), if_neg (by decide), if_pos rfl, bsome]
theorem vnm_pos {q : Nat} {v : qop} (h : vnm b t q = some v) : pk b t q ≠ -1 := fun e => by
  unfold vnm at h
  rw [e, isD_m1, if_neg (by decide)] at h
  split at h
  · rename_i h10
    have h1 := (vwf_spec b t q 10 0).2.2 (by unfold vw at h10; omega)
    have h2 : wrd b t q (7 + vw b t q) = true := h1
    have := wrd_W (by omega) h2
    rw [e, isW_m1] at this
    cases this
  · cases h
theorem V_both {sg2 : Int32} (P : PT b t c1 m1 L B c0 N0 σc σm pc pm ex sg cnt [] h g cc cm ts) (R : VR b t c1 L B (en isB b t pc) ex sg sg2 cnt h cc) :
    ∃ σm', d_X11_value σm = some σm' ∧ ((∃ σc' pc' cc' cm', pc < pc' ∧ cgo 1 σc σc' ∧ PT b t c1 m1 L B c0 N0 σc' σm' pc' pc' 3 sg2 (cnt + 1) [] h g cc' cm' (false :: ts)) ∨ FT b t c1 m1 L B t pc σc σm') := by
  obtain ⟨H, M, e1, e2, I, hl⟩ := P
  rw [List.nil_append] at H hl
  have e1' : cm = cc := by rw [e1]; simp [ops]
  have hl2 := I.len
  have hcnt := I.2.2.1
  have t400 := H.1.1.1
  have hpc := H.2.1.2.2
  obtain ⟨τ, n1, k, hq, T⟩ := H.next
  obtain ⟨τ2, ex2, r1, k2, T2⟩ := R.2 τ k T
  have hs := (en_spec isB_m1 b t pc).1
  generalize hqe : en isB b t pc = q at n1 k hq T r1 k2 T2 hs e2
  have st : ∀ σ', d_X5_takeValue τ2 = some σ' → cgo 1 σc σ' := fun σ' e => cgo_1 ⟨by rw [H.2.2.1.2.2.1]; exact R.1, H.2.1.1, τ, n1, by rw [r1, e]⟩
  obtain ⟨v1, v2, v3⟩ := T2.val k2 hq (by rw [← e1']; omega) hcnt
  obtain ⟨w1, w2, w3⟩ := M.value (m := t) e2.symm (by omega) hcnt (Nat.le_refl _)
  have bad : ∀ c : Int32, 0 ≤ c.toInt → c.toInt ≤ 7 → (∃ σ', d_X5_takeValue τ2 = some σ' ∧ FC c1 L σ' (flt 0 c q)) → (∃ σ', d_X11_value σm = some σ' ∧ MF b t m1 L B t σ' (flt 0 c q)) → ∃ σm', d_X11_value σm = some σm' ∧ ((∃ σc' pc' cc' cm', pc < pc' ∧ cgo 1 σc σc' ∧ PT b t c1 m1 L B c0 N0 σc' σm' pc' pc' 3 sg2 (cnt + 1) [] h g cc' cm' (false :: ts)) ∨ FT b t c1 m1 L B t pc σc σm') := fun c q1 q2 ⟨x, x1, x2⟩ ⟨y, y1, y2⟩ => by
    obtain ⟨f1, f2⟩ := flt_ok (q := q) (by omega) q1 q2
    exact ⟨y, y1, Or.inr ⟨_, 1, x, f1, f2, by omega, st x x1, x2, y2⟩⟩
  cases hv : vnm b t q with
  | none =>
    refine bad (vfc b t q) ?_ ?_ (v2 hv) (w2 hv) <;> (unfold vfc; split <;> decide)
  | some v =>
    by_cases h60 : cnt = 60
    · exact bad 3 (by decide) (by decide) (v3 (by rw [hv]; exact fun e => by cases e) h60) (w3 (by rw [hv]; exact fun e => by cases e) h60)
    · obtain ⟨x, x1, x2⟩ := v1 v hv (by omega)
      obtain ⟨y, y1, y2⟩ := w1 v hv (by omega)
      have hA := tkA_le (b := b) hq
      have := hA.2.2 (vnm_pos hv)
      refine ⟨y, y1, Or.inl ⟨x, tkA b t q, cc ++ [v], cm ++ [v], by omega, st x x1, x2, y2, by rw [e1']; simp [ops], rfl, (I.val hv (by omega)).up (by omega) (by omega), by rw [List.nil_append]; omega⟩⟩
end
