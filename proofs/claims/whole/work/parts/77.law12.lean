/-! CALLS: law, the loop of a TEST -/
section
variable {b : Nat → Int32} {t : Nat} {c1 m1 : zH} {L B c0 N0 : Nat} {σ σc σm : zH} {pc pm q m : Nat} {ex sg : Int32} {cnt : Nat} {A h0 h g : List Nat} {cc cm : List qop} {ts : List Bool} {f : Int32}
theorem x11_testF {F : Int32} {M : Nat} (hF : MF b t m1 L B M σ F) (f : Nat) (x1 x2 : Int32) : k_X11_test_9 (f + 1) σ x1 x2 = some σ := by
  rw [k_X11_test_9]
  by_cases h : x2 = 0
  · rw [if_pos h]
  · rw [if_neg h, hF.2.1, if_neg hF.2.2.1]
theorem W_loop : ∀ d f σc σm pc pm ex sg cnt A g cc cm (w : Bool), 2 * (t - pc) + (if w then 1 else 0) ≤ d → d + 2 ≤ f → (if w then A = [] ∧ W1 b t c1 m1 L B c0 N0 σc σm pc pm sg cnt g cc cm else W0 b t c1 m1 L B c0 N0 σc σm pc pm ex sg cnt A g cc cm) → ∃ σm', k_X11_test_9 f σm (b2i w) (1 : Int32) = some σm' ∧ TE b t c1 m1 L B c0 N0 pc σc σm' := by
  intro d
  induction d with
  | zero =>
    intro f σc σm pc pm ex sg cnt A g cc cm w hd hf W
    obtain ⟨f, rfl⟩ : ∃ g, f = g + 1 + 1 := ⟨f - 2, by omega⟩
    cases w with
    | true => rw [if_pos rfl] at hd; omega
    | false =>
      rw [if_neg (by decide)] at W
      have hle := W.1.1.2.1.2.2
      obtain ⟨σm', w', x2, go, R⟩ := W_joint W
      have e := go (f + 1)
      rw [show b2i false = 0 from rfl, e]
      rcases R with ⟨-, -, σc', pc', g', cc', cm', sg', hlt, -, W'⟩ | ⟨-, -, σc', pc', g', cc', cm', sg', hlt, -, W'⟩ | ⟨rfl, R⟩ | F
      · have := W'.1.1.2.1.2.2
        rw [if_neg (by decide)] at hd
        omega
      · have := W'.1.1.2.1.2.2
        rw [if_neg (by decide)] at hd
        omega
      · rw [k_X11_test_9, if_pos rfl]
        exact ⟨σm', rfl, R⟩
      · obtain ⟨ff, k5, σ5, f1, f2, f3, f4, f5, f6⟩ := F
        rw [x11_testF f6]
        exact ⟨σm', rfl, Or.inr ⟨ff, k5, σ5, f1, f2, f3, f4, f5, f6⟩⟩
  | succ d ih =>
    intro f σc σm pc pm ex sg cnt A g cc cm w hd hf W
    obtain ⟨f, rfl⟩ : ∃ g, f = g + 1 + 1 := ⟨f - 2, by omega⟩
    cases w with
    | true =>
      rw [if_pos rfl] at W hd
      obtain ⟨-, W⟩ := W
      obtain ⟨σm', r, e, R⟩ := W_fact W
      have e9 : k_X11_test_9 (f + 1 + 1) σm (1 : Int32) (1 : Int32) = k_X11_test_9 (f + 1) σm' (if b2i r = 0 then 1 else 0) 1 := by
        rw [k_X11_test_9, if_neg i10, if_pos W.1.2.1.2.1.1, if_neg i10, e]
        simp only [Option.bind_some]
        unfold j_X11_test_36
        cases r with
        | true => rw [b2i_t, if_neg i10, if_neg i10]
        | false => rw [b2i_f, if_pos rfl, if_pos rfl]
      rw [b2i_t, e9]
      rcases R with ⟨rfl, σc', pc', g', hlt, hs, W'⟩ | ⟨rfl, k4, σc', pc', pm', cnt', A', cc', cm', q1, s4, W'⟩ | F
      · obtain ⟨σ7, e7, R7⟩ := ih (f + 1) σc' σm' pc' pc' 0 sg cnt [] g' cc cm true (by rw [if_pos rfl]; have := W'.1.1.2.1.2.2; omega) (by omega) (by rw [if_pos rfl]; exact ⟨rfl, W'⟩)
        exact ⟨σ7, e7, R7.pre hs (by omega)⟩
      · obtain ⟨σ7, e7, R7⟩ := ih (f + 1) σc' σm' pc' pm' 3 1 cnt' A' g cc' cm' false (by rw [if_neg (by decide)]; omega) (by omega) (by rw [if_neg (by decide)]; exact W')
        exact ⟨σ7, e7, R7.pre s4 q1⟩
      · obtain ⟨ff, k5, σ5, f1, f2, f3, f4, f5, f6⟩ := F
        rw [x11_testF f6]
        exact ⟨σm', rfl, Or.inr ⟨ff, k5, σ5, f1, f2, f3, f4, f5, f6⟩⟩
    | false =>
      rw [if_neg (by decide)] at W hd
      obtain ⟨σm', w', x2, go, R⟩ := W_joint W
      rw [show b2i false = 0 from rfl, go (f + 1)]
      rcases R with ⟨rfl, rfl, σc', pc', g', cc', cm', sg', hlt, hs, W'⟩ | ⟨rfl, rfl, σc', pc', g', cc', cm', sg', hlt, hs, W'⟩ | ⟨rfl, R⟩ | F
      · obtain ⟨σ7, e7, R7⟩ := ih (f + 1) σc' σm' pc' pc' 0 sg' cnt [] g' cc' cm' true (by rw [if_pos rfl]; have := W'.1.1.2.1.2.2; omega) (by omega) (by rw [if_pos rfl]; exact ⟨rfl, W'⟩)
        exact ⟨σ7, e7, R7.pre hs (by omega)⟩
      · obtain ⟨σ7, e7, R7⟩ := ih (f + 1) σc' σm' pc' pc' 4 sg' cnt [] g' cc' cm' false (by rw [if_neg (by decide)]; have := W'.1.1.2.1.2.2; omega) (by omega) (by rw [if_neg (by decide)]; exact W')
        exact ⟨σ7, e7, R7.pre hs (by omega)⟩
      · rw [k_X11_test_9, if_pos rfl]
        exact ⟨σm', rfl, R⟩
      · obtain ⟨ff, k5, σ5, f1, f2, f3, f4, f5, f6⟩ := F
        rw [x11_testF f6]
        exact ⟨σm', rfl, Or.inr ⟨ff, k5, σ5, f1, f2, f3, f4, f5, f6⟩⟩
/-- from the clause's word on -/
theorem W_test (H : CC b t c1 L B σc pc 1 sg cnt [] []) (M : MM b t m1 L B (uI σm 11 0 38 (nI 0)) pc cnt [] []) (I : IV B c0 N0 pc cnt [] [] []) : ∃ σm', d_X11_test σm = some σm' ∧ TE b t c1 m1 L B c0 N0 pc σc σm' := by
  have t400 := H.1.1.1
  have hpc := H.2.1.2.2
  unfold d_X11_test
  simp only [zlet]
  rw [show uI σm 11 0 38 (0 : Int32) = uI σm 11 0 38 (nI 0) by rw [nI_0]]
  exact W_loop 801 zN σc _ pc pc 0 sg cnt [] [] [] [] true (by rw [if_pos rfl]; omega) (by rw [zN_eq]; omega) (by rw [if_pos rfl]; exact ⟨rfl, ⟨H, M, ops_0 _, rfl, I, by simp⟩, trivial, by decide⟩)
end
