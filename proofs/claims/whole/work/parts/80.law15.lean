/-! CALLS: law -/
theorem L_go : ∀ (k f x : Nat) (σ σ' : zH), cgo k σ σ' → x + k ≤ 401 → k_X5_readLaw_46 (k + f) σ (nI x) = k_X5_readLaw_46 f σ' (nI (x + k))
  | 0, f, x, σ, σ', h, _ => by cases h; rw [Nat.zero_add, Nat.add_zero]
  | k + 1, f, x, σ, σ', ⟨d, ⟨h1, h2, τ, h3, h4⟩, h5⟩, hx => by
    rw [show k + 1 + f = (k + f) + 1 by omega, k_X5_readLaw_46, if_neg (show ¬ (400 : Int32) < nI x from nI_nlt (a := 400) (by omega) (by omega)), if_neg h1]
    unfold d_X7_failed
    rw [if_pos h2]
    simp only [Option.bind_some, if_true]
    rw [h3]
    simp only [Option.bind_some]
    rw [h4]
    simp only [Option.bind_some]
    rw [nI_1, L_go k f (x + 1) d σ' h5 (by omega), show x + 1 + k = x + (k + 1) by omega]
theorem L_stop {σ : zH} (h : σ.1 5 0 2 = 5 ∨ ¬ σ.1 7 0 5 = 0) (f : Nat) (x : Int32) : k_X5_readLaw_46 (f + 1) σ x = some (σ, σ.1 7 0 5) := by
  rw [k_X5_readLaw_46]
  by_cases h1 : (400 : Int32) < x
  · rw [if_pos h1]
  rw [if_neg h1]
  by_cases h2 : σ.1 5 0 2 = 5
  · rw [if_pos h2]
  rw [if_neg h2]
  unfold d_X7_failed
  rw [if_neg (h.resolve_left h2)]
  simp only [Option.bind_some]
  rw [if_neg i10]
section
variable {b : Nat → Int32} {t : Nat} {σc0 σm0 : zH} {L : Nat}
theorem L_loop (c47 : zH → Int32 → Option (zH × Int32)) : ∀ r cl B σc σm pc pm sg cnt N0 G, cl.length + r = 12 → r + 1 < G → LPc b t σc0 L cl B σc pc sg cnt → LPm b t σm0 L cl B σm pm cnt → en isB b t pc = en isB b t pm → B ≤ 2 * cnt + N0 → 3 * N0 ≤ pc → cnt ≤ 60 →
    ∃ k σc' σm' n', k + pc ≤ t + 1 ∧ cgo k σc σc' ∧ (σc'.1 5 0 2 = 5 ∨ ¬ σc'.1 7 0 5 = 0) ∧ k_X11_law_27 c47 G σm (nI cl.length) (1 : Int32) = c47 σm' (nI n') ∧ zsm (Fl L) σc0 σc' ∧ (∀ kk j, ¬ Fml L kk j → σm'.1 kk 0 j = σm0.1 kk 0 j) ∧ σm'.1 11 0 32 = σc'.1 7 0 5 ∧ 0 ≤ (σc'.1 7 0 5).toInt ∧
      (σc'.1 7 0 5 = 0 → ∃ cl' B', n' = cl'.length ∧ cl'.length ≤ 12 ∧ σc'.1 4 L 0 = nI cl'.length ∧ rLq σc' L cl' B' ∧ rMq σm' L cl' B' ∧ B' ≤ 300) := by
  intro r
  induction r with
  | zero =>
    intro cl B σc σm pc pm sg cnt N0 G hr hG Hc Hm e hB hN hcnt
    obtain ⟨G, rfl⟩ : ∃ g, G = g + 1 + 1 := ⟨G - 2, by omega⟩
    obtain ⟨m1, m2, go, e1, e2, R⟩ := L_clause Hc Hm e hB hN hcnt (by omega)
    rw [k_X11_law_27, if_neg i10, e1]
    simp only [Option.bind_some]
    rw [e2]
    simp only [Option.bind_some]
    rcases R with ⟨-, h12, -⟩ | ⟨-, h12, -⟩ | ⟨rfl, f, k, σ', f1, f2, f3, f4, f5, f6, f7, f8⟩
    · omega
    · omega
    · rw [b2i_f, k_X11_law_27, if_pos rfl, nI_1]
      exact ⟨k, σ', m2, _, f3, f4, Or.inr (by rw [f5]; exact f1), rfl, f6, f7, by rw [f8, f5], by rw [f5]; exact f2, fun c => absurd (by rw [← f5]; exact c) f1⟩
  | succ r ih =>
    intro cl B σc σm pc pm sg cnt N0 G hr hG Hc Hm e hB hN hcnt
    obtain ⟨G, rfl⟩ : ∃ g, G = g + 1 + 1 := ⟨G - 2, by omega⟩
    obtain ⟨m1, m2, go, e1, e2, R⟩ := L_clause Hc Hm e hB hN hcnt (by omega)
    rw [k_X11_law_27, if_neg i10, e1]
    simp only [Option.bind_some]
    rw [e2]
    simp only [Option.bind_some]
    rcases R with ⟨rfl, h12, k, σ', pc', sg', cnt', N0', code, kk, q1, q2, q3, q4, q5, q6, q7, q8⟩ | ⟨rfl, h12, k, σ', kk, code, q1, q2, q3, q4, q5, q6, q7, q8, q9, q10, q11⟩ | ⟨rfl, f, k, σ', f1, f2, f3, f4, f5, f6, f7, f8⟩
    · obtain ⟨k2, σ2, m3, n', a1, a2, a3, a4, a5⟩ := ih (cl ++ [(kk, code)]) (B + code.length) σ' m2 pc' pc' sg' cnt' N0' (G + 1) (by rw [List.length_append, List.length_singleton]; omega) (by omega) q4 q5 rfl q6 q7 q8
      rw [List.length_append, List.length_singleton] at a4
      rw [b2i_t, nI_1]
      exact ⟨k + k2, σ2, m3, n', by omega, cgo_app q3 a2, a3, a4, a5⟩
    · rw [b2i_f, k_X11_law_27, if_pos rfl, nI_1]
      refine ⟨k, σ', m2, cl.length + 1, q1, q2, Or.inl q3, rfl, q5, q8, by rw [q9, q4], by rw [q4]; decide, fun _ => ⟨cl ++ [(kk, code)], B + code.length, by rw [List.length_append, List.length_singleton], by rw [List.length_append, List.length_singleton]; omega, by rw [List.length_append, List.length_singleton]; exact q6, q7, q10, q11⟩⟩
    · rw [b2i_f, k_X11_law_27, if_pos rfl, nI_1]
      exact ⟨k, σ', m2, _, f3, f4, Or.inr (by rw [f5]; exact f1), rfl, f6, f7, by rw [f8, f5], by rw [f5]; exact f2, fun c => absurd (by rw [← f5]; exact c) f1⟩
end
theorem rML.mv2 {σ σ' : zH} {r : Nat} {cl : List (Bool × List qop)} (h : rML σ r cl) (e1 : σ'.1 73 0 r = σ.1 73 0 r) (e2 : ∀ k i, 74 ≤ k → k ≤ 76 → i < 12 → σ'.1 k 0 (12 * r + i) = σ.1 k 0 (12 * r + i)) (e3 : ∀ k j, k = 71 ∨ k = 72 → j < 300 → σ'.1 k 0 (300 * r + j) = σ.1 k 0 (300 * r + j)) : rML σ' r cl := by
  obtain ⟨a1, a2, a3, a4⟩ := h
  refine ⟨a1, a2, by rw [e1]; exact a3, fun i k code hi => ?_⟩
  have hl := (List.getElem?_eq_some_iff.mp hi).1
  obtain ⟨b1, b2, b3, b', b4, b5, b6, b7⟩ := a4 i k code hi
  exact ⟨by rw [e2 74 i (by omega) (by omega) (by omega)]; exact b1, b2, b3, b', b4, by rw [e2 75 i (by omega) (by omega) (by omega)]; exact b5, by rw [e2 76 i (by omega) (by omega) (by omega)]; exact b6, cdAt_cg b7 (fun j _ q => ⟨e3 71 j (Or.inl rfl) (by omega), e3 72 j (Or.inr rfl) (by omega)⟩)⟩
theorem qR.lw {σc σm c2 m2 : zH} {L L' : Nat} (h : qR σc σm) (hL : σc.1 10 0 5 = nI L) (hL6 : L < 6) (zc : ∀ k i, ¬ Fl L k i → k ≠ 9 → k ≠ 10 → c2.1 k i = σc.1 k i) (zm : ∀ k j, ¬ Fml L k j → ¬ (k = 11 ∧ (j = 30 ∨ j = 33 ∨ j = 34)) → ¬ (k = 73 ∧ j = L) → m2.1 k 0 j = σm.1 k 0 j)
    (t1 : c2.1 9 0 1 = 0) (t2 : m2.1 11 0 30 = 0) (hl : L' = L ∨ (L' = L + 1 ∧ ∃ cl, rL c2 L cl ∧ rML m2 L cl)) (n1 : c2.1 10 0 5 = nI L') (n2 : m2.1 11 0 34 = nI L') : qR c2 m2 := by
  obtain ⟨-, ⟨L0, l1, l2, l3, l4⟩, ⟨E, wt, D, v⟩, im, w39, men⟩ := h
  have e0 : L0 = L := (nI_eq (by omega) (by omega)).mp (l2.symm.trans hL)
  subst e0
  have hold : ∀ r, r < L0 → ∃ cl, rL c2 r cl ∧ rML m2 r cl := fun r hr => by
    obtain ⟨cl, x1, x2⟩ := l4 r hr
    exact ⟨cl, x1.mv (fun k hk => zc k r (by unfold Fl Fq; omega) (by omega) (by omega)), x2.mv2 (zm _ _ (by unfold Fml; omega) (by omega) (by omega)) (fun k i k1 k2 hi => zm _ _ (by unfold Fml; omega) (by omega) (by omega)) (fun k j hk hj => zm _ _ (by unfold Fml; omega) (by omega) (by omega))⟩
  refine ⟨rTape_0 t1 t2, ⟨L', by omega, n1, n2, fun r hr => ?_⟩, ⟨E, wt, D, v.mv (fun k hk => zc k _ (by unfold Fl Fq; omega) (by omega) (by omega)) (fun k hk => zc k _ (by unfold Fl Fq; omega) (by omega) (by omega)) (fun k hk j => zm _ _ (by unfold Fml; omega) (by omega) (by omega)) (fun j hj => zm _ _ (by unfold Fml; omega) (by omega) (by omega)) (fun k a b j _ => zm _ _ (by unfold Fml; omega) (by omega) (by omega)) (zm _ _ (by unfold Fml; omega) (by omega) (by omega))⟩,
    im.mv (zc 41 0 (by unfold Fl Fq; omega) (by omega) (by omega)) (fun k i hk hi => zc k i (by unfold Fl Fq; omega) (by omega) (by omega)) (fun k i hk hi => zc k i (by unfold Fl Fq; omega) (by omega) (by omega)) (funext fun j => zm _ _ (by unfold Fml; omega) (by omega) (by omega)) (funext fun j => zm _ _ (by unfold Fml; omega) (by omega) (by omega)) (zm _ _ (by unfold Fml; omega) (by omega) (by omega)),
    by rw [zm _ _ (by unfold Fml; omega) (by omega) (by omega)]; exact w39, men.mv (fun k i hk h1 h2 => zc k i (by unfold Fl Fq; omega) (by omega) (by omega))⟩
  rcases hl with rfl | ⟨rfl, hnew⟩
  · exact hold r hr
  · by_cases hrL : r = L0
    · rw [hrL]; exact hnew
    · exact hold r (by omega)
theorem r_law {σc σm : zH} (h : qR σc σm) : zrel (d_X10_law σc) (d_X11_law σm) qR := by
  obtain ⟨t, t1, t2, t3, t4⟩ := h.1
  obtain ⟨L, l1, l2, l3, l4⟩ := h.2.1
  unfold d_X10_law d_X11_law
  by_cases h6 : L = 6
  · subst h6
    rw [l2, if_neg (show ¬ nI 6 < (6 : Int32) from nI_nlt (b := 6) (by omega) (by omega)), l3, if_pos (show nI 6 = (6 : Int32) from rfl)]
    exact zrel_same h
  have hL : L < 6 := by omega
  rw [l2, if_pos (show nI L < (6 : Int32) from nI_lt (b := 6) hL (by omega)), ix_nI hL (by omega), l3, if_neg (show ¬ nI L = (6 : Int32) from fun w => h6 ((nI_eq (a := L) (b := 6) (by omega) (by omega)).mp w))]
  rw [Nat.zero_add]
  unfold d_X5_readLaw d_X4_clear d_X7_begin d_X11_starts
  simp only [zlet, Option.bind_some]
  have e51 : (uI σc 5 0 1 (Int32.ofNat L)).1 5 0 1 = nI L := by rw [uI_1, if_pos ⟨rfl, rfl, rfl⟩]; rfl
  rw [e51, ix_nI hL (by omega)]
  generalize hc1 : uI (uI (uI (uI (uI (uI (uI (uI (uI (uI σc 5 0 1 (Int32.ofNat L)) 4 L 0 0) 4 L 3 0) 5 0 2 0) 5 0 4 0) 5 0 6 0) 5 0 7 0) 5 0 8 0) 7 0 1 0) 7 0 5 0 = c1
  generalize hm1 : uI (uI (uI (uI (uI (uI σm 11 0 33 (nI L)) 11 0 31 0) 11 0 32 0) 11 0 35 0) 11 0 36 0) 11 0 37 0 = m1
  have zc : zsm (Fl L) σc c1 := by
    rw [← hc1]
    refine ((((((((((zsm.rf.uI ?_ _ _).uI ?_ _ _).uI ?_ _ _).uI ?_ _ _).uI ?_ _ _).uI ?_ _ _).uI ?_ _ _).uI ?_ _ _).uI ?_ _ _).uI ?_ _ _) <;> (unfold Fl Fq; omega)
  have cu : ∀ k i j, ¬ (k = 5 ∨ k = 7 ∨ (k = 4 ∧ i = L)) → c1.1 k i j = σc.1 k i j := fun k i j q => by
    rw [← hc1, uI_1, if_neg (by omega), uI_1, if_neg (by omega), uI_1, if_neg (by omega), uI_1, if_neg (by omega), uI_1, if_neg (by omega), uI_1, if_neg (by omega), uI_1, if_neg (by omega), uI_1, if_neg (by omega), uI_1, if_neg (by omega), uI_1, if_neg (by omega)]
  have mu : ∀ k j, ¬ (k = 11 ∧ (j = 31 ∨ j = 32 ∨ j = 33 ∨ j = 35 ∨ j = 36 ∨ j = 37)) → m1.1 k 0 j = σm.1 k 0 j := fun k j q => by
    rw [← hm1, uI_1, if_neg (by omega), uI_1, if_neg (by omega), uI_1, if_neg (by omega), uI_1, if_neg (by omega), uI_1, if_neg (by omega), uI_1, if_neg (by omega)]
  have Hc : LPc (σc.1 37 0) t σc L [] 0 c1 0 (σc.1 5 0 3) 0 := by
    refine ⟨⟨⟨⟨t1, by rw [cu _ _ _ (by omega)]; exact t2, fun i hi => cu _ _ _ (by omega)⟩, zsm.rf, rfl, fun _ _ => ⟨rfl, rfl⟩⟩, ⟨?_, ?_, by omega⟩, ⟨?_, hL, ?_, ?_, ?_⟩, ⟨?_, ?_, ?_, trivial⟩, ⟨?_, trivial⟩⟩, zc, ?_, fun q => by simp at q, fun i k code q => by simp at q⟩
    · rw [← hc1]; simp [uI_1]
    · rw [← hc1]; simp [uI_1, nI_0]
    · rw [← hc1]; simp [uI_1]; rfl
    · rw [← hc1]; simp [uI_1]
    · rw [← hc1]; simp [uI_1]
    · rw [← hc1]; simp [uI_1, nI_0]
    · rw [← hc1]; simp [uI_1, nI_0]
    · rw [← hc1]; simp [uI_1, ctn, nI_0]
    · rw [← hc1]; simp [uI_1, ctn, nI_0]
    · rw [← hc1]; simp [uI_1, nI_0]
    · rw [← hc1]; simp [uI_1, nI_0]
  have Hm : LPm (σc.1 37 0) t (uI σm 11 0 33 (nI L)) L [] 0 m1 0 0 := by
    refine ⟨⟨⟨t1, by rw [mu _ _ (by omega)]; exact t3, fun i hi => ?_⟩, fun k j hk => ?_⟩, ⟨?_, ?_, by omega⟩, ⟨?_, ?_, ?_, ?_, ?_⟩, fun i k code q => by simp at q⟩
    · rw [mu _ _ (by omega)]
      obtain ⟨q1, q2⟩ := t4 i hi
      exact ⟨q1.symm, q2⟩
    · unfold Fml at hk
      rw [← hm1, uI_1, if_neg (by omega), uI_1, if_neg (by omega), uI_1, if_neg (by omega), uI_1, if_neg (by omega), uI_1, if_neg (by omega)]
    · rw [← hm1]; simp [uI_1]
    · rw [← hm1]; simp [uI_1, nI_0]
    · rw [← hm1]; simp [uI_1]
    · rw [mu _ _ (by omega)]; exact h.2.2.2.2.1
    · rw [← hm1]; simp [uI_1, nI_0]
    · rw [← hm1]; simp [uI_1]
    · rw [← hm1]; simp [uI_1, nI_0]
  obtain ⟨k, c', m', n', a1, a2, a3, a4, a5, a6, a7, a8, a9⟩ := L_loop j_X11_law_47 12 [] 0 c1 m1 0 0 (σc.1 5 0 3) 0 0 zN (by simp) (by rw [zN_eq]; omega) Hc Hm rfl (by omega) (by omega) (by omega)
  have hread : k_X5_readLaw_46 zN c1 (0 : Int32) = some (c', c'.1 7 0 5) := by
    obtain ⟨z, hz⟩ : ∃ z, zN = k + (z + 1) := ⟨4095 - k, by rw [zN_eq]; omega⟩
    rw [nI_c0, hz, L_go k (z + 1) 0 c1 c' a2 (by omega), L_stop a3]
  rw [hread]
  have a4' : k_X11_law_27 j_X11_law_47 zN m1 (0 : Int32) (1 : Int32) = j_X11_law_47 m' (nI n') := by
    rw [show k_X11_law_27 j_X11_law_47 zN m1 (0 : Int32) (1 : Int32) = k_X11_law_27 j_X11_law_47 zN m1 (nI 0) (1 : Int32) by rw [nI_0]]
    exact a4
  rw [a4']
  simp only [Option.bind_some]
  unfold j_X11_law_47 j_X11_law_79
  simp only [zlet]
  have g33 : (uI m' 11 0 30 0).1 11 0 33 = nI L := by rw [uI_1, if_neg (by omega), a6 _ _ (by unfold Fml; omega), uI_1, if_pos ⟨rfl, rfl, rfl⟩]
  rw [g33, ix_nI hL (by omega)]
  generalize hf : c'.1 7 0 5 = f at *
  have g32 : (uI (uI m' 11 0 30 0) 73 0 L (nI n')).1 11 0 32 = f := by rw [uI_1, if_neg (by omega), uI_1, if_neg (by omega)]; exact a7
  have g34 : (uI (uI m' 11 0 30 0) 73 0 L (nI n')).1 11 0 34 = nI L := by rw [uI_1, if_neg (by omega), uI_1, if_neg (by omega), a6 _ _ (by unfold Fml; omega), uI_1, if_neg (by omega)]; exact l3
  rw [g32, g34]
  have c105 : c'.1 10 0 5 = nI L := by rw [(a5 10 0 (by unfold Fl Fq; omega)).1]; exact l2
  have zm' : ∀ (x : Int32) k j, ¬ Fml L k j → ¬ (k = 11 ∧ (j = 30 ∨ j = 33 ∨ j = 34)) → ¬ (k = 73 ∧ j = L) → (uI (uI (uI m' 11 0 30 0) 73 0 L (nI n')) 11 0 34 x).1 k 0 j = σm.1 k 0 j := fun x k j q1 q2 q3 => by
    rw [uI_1, if_neg (by omega), uI_1, if_neg (by omega), uI_1, if_neg (by omega), a6 k j q1, uI_1, if_neg (by omega)]
  by_cases hf0 : f = 0
  · obtain ⟨cl, B, b1, b2, b3, b4, b5, b6⟩ := a9 hf0
    rw [if_pos hf0, if_pos hf0]
    have g32' : (uI (uI (uI m' 11 0 30 0) 73 0 L (nI n')) 11 0 34 (nI L + 1)).1 11 0 32 = f := by rw [uI_1, if_neg (by omega)]; exact g32
    have g34' : (uI (uI (uI m' 11 0 30 0) 73 0 L (nI n')) 11 0 34 (nI L + 1)).1 11 0 34 = nI (L + 1) := by rw [uI_1, if_pos ⟨rfl, rfl, rfl⟩, nI_1]
    have c5 : (uI c' 9 0 1 0).1 10 0 5 = nI L := by rw [uI_1, if_neg (by omega)]; exact c105
    rw [g32', g34', c5, if_neg (show ¬ (0 : Int32) < f by rw [hf0]; decide)]
    have c5' : (uI (uI c' 9 0 1 0) 10 0 5 (nI L + 1)).1 10 0 5 = nI (L + 1) := by rw [uI_1, if_pos ⟨rfl, rfl, rfl⟩, nI_1]
    rw [c5']
    refine zrel_same (h.lw (L' := L + 1) l2 hL (fun k i q1 q2 q3 => ?_) (zm' _) ?_ ?_ (Or.inr ⟨rfl, cl, ?_, ?_⟩) c5' g34')
    · rw [show (uI (uI c' 9 0 1 0) 10 0 5 (nI L + 1)).1 k i = c'.1 k i from funext fun j => by rw [uI_1, if_neg (by omega), uI_1, if_neg (by omega)]]
      exact (a5 k i q1).1
    · rw [uI_1, if_neg (by omega), uI_1, if_pos ⟨rfl, rfl, rfl⟩]
    · rw [uI_1, if_neg (by omega), uI_1, if_neg (by omega), uI_1, if_pos ⟨rfl, rfl, rfl⟩]
    · have ec : ∀ k j, k ≠ 9 → k ≠ 10 → (uI (uI c' 9 0 1 0) 10 0 5 (nI L + 1)).1 k L j = c'.1 k L j := fun k j q1 q2 => by rw [uI_1, if_neg (by omega), uI_1, if_neg (by omega)]
      refine ⟨b2, by rw [ec _ _ (by omega) (by omega)]; exact b3, fun i k code hi => ?_⟩
      obtain ⟨x1, x2, x3, b', x4, x5, x6, x7⟩ := b4 i k code hi
      exact ⟨by rw [ec _ _ (by omega) (by omega)]; exact x1, x2, x3, b', by omega, by rw [ec _ _ (by omega) (by omega)]; exact x5, by rw [ec _ _ (by omega) (by omega)]; exact x6, cdAt_cg x7 (fun j _ _ => ⟨ec _ _ (by omega) (by omega), ec _ _ (by omega) (by omega)⟩)⟩
    · have em : ∀ k j, k ≠ 11 → k ≠ 73 → (uI (uI (uI m' 11 0 30 0) 73 0 L (nI n')) 11 0 34 (nI L + 1)).1 k 0 j = m'.1 k 0 j := fun k j q1 q2 => by rw [uI_1, if_neg (by omega), uI_1, if_neg (by omega), uI_1, if_neg (by omega)]
      refine ⟨hL, b2, by rw [uI_1, if_neg (by omega), uI_1, if_pos ⟨rfl, rfl, rfl⟩, b1], fun i k code hi => ?_⟩
      obtain ⟨x1, x2, x3, b', x4, x5, x6, x7⟩ := b5 i k code hi
      exact ⟨by rw [em _ _ (by omega) (by omega)]; exact x1, x2, x3, b', by omega, by rw [em _ _ (by omega) (by omega)]; exact x5, by rw [em _ _ (by omega) (by omega)]; exact x6, cdAt_cg x7 (fun j _ _ => ⟨em _ _ (by omega) (by omega), em _ _ (by omega) (by omega)⟩)⟩
  · rw [if_neg hf0, if_neg hf0]
    have g32' : ∀ x : Int32, (uI (uI (uI m' 11 0 30 0) 73 0 L (nI n')) 11 0 34 x).1 11 0 32 = f := fun x => by rw [uI_1, if_neg (by omega)]; exact g32
    have hp : (0 : Int32) < f := by
      rw [fa_lt, i32_0]
      rw [fa_eq, i32_0] at hf0
      omega
    rw [g32', if_pos hp]
    refine zrel_same (h.lw (L' := L) l2 hL (fun k i q1 q2 q3 => ?_) (zm' _) ?_ ?_ (Or.inl rfl) ?_ ?_)
    · rw [show (uI c' 9 0 1 0).1 k i = c'.1 k i from funext fun j => by rw [uI_1, if_neg (by omega)]]
      exact (a5 k i q1).1
    · rw [uI_1, if_pos ⟨rfl, rfl, rfl⟩]
    · rw [uI_1, if_neg (by omega), uI_1, if_neg (by omega), uI_1, if_pos ⟨rfl, rfl, rfl⟩]
    · rw [uI_1, if_neg (by omega)]; exact c105
    · rw [uI_1, if_pos ⟨rfl, rfl, rfl⟩, Int32.add_zero]
