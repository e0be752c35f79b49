/-! CALLS: barracks, the loop -/
section
variable {b : Nat → Int32} {t : Nat} {σc0 σm0 : zH}
theorem b_loop (c53 : zH → Option (zH × Int32)) : ∀ r k σc σm p n bl d F G, k + r = 24 → r + 1 < F → r + 1 < G → ST b t σc0 σm0 σc σm 0 p → BB σc σm n bl d → ∃ c' m' f', k_X1_readCamp_28 F σc (1 : Int32) (nI k) = some (c', f') ∧ k_X11_barracks_33 c53 G σm (nI k) (1 : Int32) = c53 m' ∧ zsm Fb σc0 c' ∧ (∀ kk j, ¬ Fbm kk j → m'.1 kk 0 j = σm0.1 kk 0 j) ∧ m'.1 11 0 32 = f' ∧ 0 ≤ f'.toInt ∧ (f' = 0 → ∃ n bl d, BB c' m' n bl d) := by
  intro r
  induction r with
  | zero =>
    intro k σc σm p n bl d F G hkr hF hG h B
    obtain ⟨F, rfl⟩ : ∃ F', F = F' + 1 + 1 := ⟨F - 2, by omega⟩
    obtain ⟨G, rfl⟩ : ∃ G', G = G' + 1 + 1 := ⟨G - 2, by omega⟩
    obtain ⟨c2, m2, f2, p2, o1, o2, ⟨h1, h2, h3, h4, h5, h6, h7, h8, h9, h10⟩, o4, o5⟩ := b_body h B (show k ≤ 24 by omega)
    obtain ⟨c3, m3, go, f3, p3, a1, a2, a3, a4, a5, a6, a7, a7', a8⟩ := follow_both h1 h2 h5 h6 h7 h8 h9
    have hf2 := o5 (by omega)
    have hgo : go = false := by
      cases go with
      | false => rfl
      | true => exact absurd (a7 (a8 rfl).1) hf2
    subst hgo
    have hk24 : k = 24 := by omega
    rw [k_X1_readCamp_28, if_neg i10, if_neg (show ¬ (24 : Int32) < nI k from nI_nlt (a := 24) (by omega) (by omega)), if_pos (show nI k = (24 : Int32) by rw [hk24]; rfl)]
    have e1 := o1 (k_X1_readCamp_28 (F + 1))
    rw [decide_eq_true hk24, b2i_t] at e1
    rw [e1, k_X11_barracks_33, if_neg i10, o2]
    unfold j_X1_readCamp_144
    rw [a1]
    simp only [Option.bind_some]
    rw [a2]
    simp only [Option.bind_some]
    rw [k_X1_readCamp_28, if_pos (show b2i false = 0 from rfl), k_X11_barracks_33, if_pos (show b2i false = 0 from rfl)]
    refine ⟨c3, m3, _, rfl, rfl, h3.tr (a3.mono (fun k i q => Or.inl q)), fun kk j hk => ?_, by rw [a5, a6], by rw [a5]; exact a7' h10, fun e => absurd (a7 (by rw [a5] at e; exact e)) hf2⟩
    rw [a4.2 kk 0 j (fun q => hk (Or.inr ⟨q.1, by omega⟩))]
    exact h4 kk j hk
  | succ r ih =>
    intro k σc σm p n bl d F G hkr hF hG h B
    obtain ⟨F, rfl⟩ : ∃ F', F = F' + 1 + 1 := ⟨F - 2, by omega⟩
    obtain ⟨G, rfl⟩ : ∃ G', G = G' + 1 + 1 := ⟨G - 2, by omega⟩
    obtain ⟨c2, m2, f2, p2, o1, o2, ⟨h1, h2, h3, h4, h5, h6, h7, h8, h9, h10⟩, o4, -⟩ := b_body h B (show k ≤ 24 by omega)
    obtain ⟨c3, m3, go, f3, p3, a1, a2, a3, a4, a5, a6, a7, a7', a8⟩ := follow_both h1 h2 h5 h6 h7 h8 h9
    have z3 : zsm Fb σc0 c3 := h3.tr (a3.mono (fun k i q => Or.inl q))
    have y3 : ∀ kk j, ¬ Fbm kk j → m3.1 kk 0 j = σm0.1 kk 0 j := fun kk j hk => by
      rw [a4.2 kk 0 j (fun q => hk (Or.inr ⟨q.1, by omega⟩))]
      exact h4 kk j hk
    have BB3 : f3 = 0 → ∃ n bl d, BB c3 m3 n bl d := fun e => by
      obtain ⟨n', bl', d', B'⟩ := o4 (a7 e)
      exact ⟨n', bl', d', B'.mv (fun kk j q _ => by rw [(a3 kk 0 q).1]) (fun kk j q => a4.2 kk 0 j (by omega))⟩
    rw [k_X1_readCamp_28, if_neg i10, if_neg (show ¬ (24 : Int32) < nI k from nI_nlt (a := 24) (by omega) (by omega)), if_neg (show ¬ nI k = (24 : Int32) from fun w => by have := (nI_eq (a := k) (b := 24) (by omega) (by omega)).mp w; omega)]
    have e1 := o1 (k_X1_readCamp_28 (F + 1))
    rw [decide_eq_false (show ¬ k = 24 by omega), b2i_f] at e1
    rw [e1, k_X11_barracks_33, if_neg i10, o2]
    unfold j_X1_readCamp_144
    rw [a1]
    simp only [Option.bind_some]
    rw [a2]
    simp only [Option.bind_some]
    cases go with
    | false =>
      rw [k_X1_readCamp_28, if_pos (show b2i false = 0 from rfl), k_X11_barracks_33, if_pos (show b2i false = 0 from rfl)]
      exact ⟨c3, m3, _, rfl, rfl, z3, y3, by rw [a5, a6], by rw [a5]; exact a7' h10, fun e => BB3 (by rw [a5] at e; exact e)⟩
    | true =>
      obtain ⟨g1, g2, g3, g4⟩ := a8 rfl
      subst g1
      obtain ⟨n', bl', d', B'⟩ := BB3 rfl
      rw [b2i_t, nI_1]
      exact ih (k + 1) c3 m3 p3 n' bl' d' (F + 1) (G + 1) (by omega) (by omega) (by omega) ⟨a3.tx h1, a4.tx h2, z3, y3, a5, a6, g2, g3, fun _ => g4, by decide⟩ B'
end
