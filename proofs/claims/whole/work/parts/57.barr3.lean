/-! CALLS: barracks, does a clause follow -/
theorem x11_j63 {σ : zH} {q : Nat} (hp : σ.1 11 0 31 = nI q) (g : Bool) : j_X11_goesOn_63 σ (b2i g) = some (uI σ 11 0 31 (nI (q + 1)), b2i g) := by
  unfold j_X11_goesOn_63
  rw [hp, nI_1]
  exact tv_01 (b2i_01 g)
theorem follow_both {b : Nat → Int32} {t : Nat} {σc σm : zH} {f : Int32} {p : Nat} (hc : txc b t σc) (hm : txm b t σm) (fc : σc.1 7 0 5 = f) (fm : σm.1 11 0 32 = f) (pm : σm.1 11 0 31 = nI p) (hpt : p ≤ t) (pc : f = 0 → σc.1 7 0 1 = nI p) :
    ∃ σc' σm' go f' p', d_X1_clauseFollows σc = some (σc', b2i go) ∧ d_X11_goesOn σm = some (σm', b2i go) ∧ z7 σc σc' ∧ zm2 σm σm' ∧ σc'.1 7 0 5 = f' ∧ σm'.1 11 0 32 = f' ∧ (f' = 0 → f = 0) ∧ (0 ≤ f.toInt → 0 ≤ f'.toInt) ∧ (go = true → f' = 0 ∧ σm'.1 11 0 31 = nI p' ∧ p' ≤ t ∧ σc'.1 7 0 1 = nI p') := by
  have ht := hc.1
  unfold d_X1_clauseFollows d_X11_goesOn d_X7_failed
  obtain ⟨m1, e1, z1⟩ := x11_blanks hm pm hpt
  have hq := en_spec isB_m1 b t p
  have nx : f = 0 → zwp (d_X7_next σc) (fun σ' => z7 σc σ' ∧ σ'.1 7 0 5 = σc.1 7 0 5 ∧ tkn b t (en isB b t p) σ') := fun hf => x7_next hc (pc hf) hpt
  generalize en isB b t p = q at hq z1 nx
  have hqt := hq.2.1 hpt
  have m32 : m1.1 11 0 32 = f := by rw [z1.2.1 11 0 32 (by omega)]; exact fm
  have m30 : m1.1 11 0 30 = nI t := by rw [z1.2.1 11 0 30 (by omega)]; exact hm.2.1
  have j0 := x11_j63 z1.2.2 false
  have j1 := x11_j63 z1.2.2 true
  rw [b2i_f] at j0
  rw [b2i_t] at j1
  by_cases hf : f = 0
  · obtain ⟨c1, e2, z2, n2, k2, k3, k4, k1⟩ := nx hf
    have m320 : m1.1 11 0 32 = 0 := m32.trans hf
    have c50 : σc.1 7 0 5 = 0 := fc.trans hf
    rw [if_pos c50, e1]
    simp only [Option.bind_some, if_true]
    rw [e2]
    simp only [Option.bind_some]
    rw [x7_isSign (z2.tx hc) 59 ⟨k2, k3, k4, k1⟩, if_pos m320, z1.2.2, m30]
    simp only [Option.bind_some]
    by_cases hlt : q < t
    · rw [if_pos (nI_lt hlt (by omega)), x11_sign (z1.tx hm) z1.2.2 (by omega)]
      simp only [Option.bind_some]
      have hne : ¬ pk b t q = -1 := by rw [pkb_in hlt]; exact hm.b0 hlt
      by_cases h59 : pk b t q = 59
      · have hD : isD (pk b t q) = false := by rw [h59]; decide
        have hW : isW (pk b t q) = false := by rw [h59]; decide
        have hK : tkK b t q = 3 := by unfold tkK; rw [if_neg hne, hD, hW]; rfl
        have hV : tkV b t q = 59 := by
          unfold tkV
          rw [if_neg hne, hD, hW, if_neg (by decide), if_neg (by decide)]
          unfold sgV
          rw [h59]
          split
          · rfl
          · rfl
        have hA : tkA b t q = q + 1 := by
          unfold tkA
          rw [if_neg hne, hD, hW, if_neg (by decide), if_neg (by decide)]
          unfold sgA
          rw [h59]
          split
          · rfl
          · rfl
        rw [hK, hV, if_pos h59]
        unfold j_X11_goesOn_40
        rw [if_pos m320, z1.2.2, m30, if_pos (nI_lt hlt (by omega)), j1, if_neg (show ¬ b2i (decide ((3 : Int32) = 3) && decide ((59 : Int32) = 59)) = 0 by decide), tv_01 (b2i_01 _)]
        exact ⟨_, _, true, 0, q + 1, rfl, rfl, z2, z1.m2.uI (Or.inl rfl) _, by rw [n2]; exact c50, by rw [uI_1, if_neg (by omega)]; exact m320, fun _ => hf, fun _ => by decide, fun _ => ⟨rfl, by rw [uI_1, if_pos ⟨rfl, rfl, rfl⟩], by omega, by rw [k1, hA]⟩⟩
      · have hS : (decide (tkK b t q = 3) && decide (tkV b t q = 59)) = false := by
          cases hD : isD (pk b t q) with
          | true =>
            have : tkK b t q = 1 := tk_num.mpr hD
            rw [this]; rfl
          | false =>
            cases hW : isW (pk b t q) with
            | true =>
              have : tkK b t q = 2 := by unfold tkK; rw [if_neg hne, hD, hW]; rfl
              rw [this]; rfl
            | false =>
              have hV : tkV b t q = sgV b t q := by unfold tkV; rw [if_neg hne, hD, hW]; rfl
              have : ¬ tkV b t q = 59 := by
                rw [hV]
                unfold sgV
                split
                · split
                  · decide
                  · split
                    · decide
                    · exact h59
                · exact h59
              rw [decide_eq_false this, Bool.and_false]
        have hK0 : ¬ tkK b t q = 0 := by
          unfold tkK
          rw [if_neg hne]
          split
          · decide
          · split <;> decide
        obtain ⟨c2, g1, g2, g3, g4⟩ := x7_fail k2 0
        obtain ⟨m2, w1, w2, w3, w4⟩ := x11_fails m1 0 q
        have n0 : ¬ flt 0 0 q = 0 := flt_n0 (by omega) (by decide) (by decide)
        rw [hS, if_pos (show b2i false = 0 from rfl), k3, if_neg hK0, if_neg h59, z1.2.2, g1, w1]
        simp only [Option.bind_some]
        unfold j_X11_goesOn_40
        have m2f : m2.1 11 0 32 = flt 0 0 q := by rw [w3, m320]
        rw [if_neg (by rw [m2f]; exact n0)]
        have j2 := x11_j63 (show m2.1 11 0 31 = nI q by rw [w4]; exact z1.2.2) false
        rw [b2i_f] at j2
        unfold j_X11_goesOn_62
        rw [j2, tv_01 (b2i_01 _)]
        exact ⟨_, _, false, flt 0 0 q, 0, rfl, rfl, z2.tr g2, (z1.m2.tr w2).uI (Or.inl rfl) _, by rw [g3, n2, c50], by rw [uI_1, if_neg (by omega)]; exact m2f, fun _ => hf, fun _ => flt_nn (by omega) (by decide) (by decide) (by decide), fun e => by cases e⟩
    · have hend : pk b t q = -1 := pkb_end (by omega)
      have hK : tkK b t q = 0 := by unfold tkK; rw [if_pos hend]
      rw [if_neg (nI_nlt (by omega) (by omega)), hK, if_pos (show b2i (decide ((0 : Int32) = 3) && decide (tkV b t q = 59)) = 0 from rfl), k3, if_pos hK]
      unfold j_X11_goesOn_40
      rw [if_pos m320, z1.2.2, m30, if_neg (nI_nlt (by omega) (by omega))]
      unfold j_X11_goesOn_62
      rw [j0, tv_01 (b2i_01 _)]
      exact ⟨_, _, false, 0, 0, rfl, rfl, z2, z1.m2.uI (Or.inl rfl) _, by rw [n2]; exact c50, by rw [uI_1, if_neg (by omega)]; exact m320, fun _ => hf, fun _ => by decide, fun e => by cases e⟩
  · rw [if_neg (by rw [fc]; exact hf), e1]
    simp only [Option.bind_some]
    rw [if_neg i10, if_neg (by rw [m32]; exact hf)]
    unfold j_X11_goesOn_40
    rw [if_neg (by rw [m32]; exact hf)]
    unfold j_X11_goesOn_62
    rw [j0]
    exact ⟨_, _, false, f, 0, rfl, rfl, z7.rf, z1.m2.uI (Or.inl rfl) _, fc, by rw [uI_1, if_neg (by omega)]; exact m32, fun e => e, fun w => w, fun e => by cases e⟩
