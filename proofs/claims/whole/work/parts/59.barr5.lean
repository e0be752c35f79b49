/-! CALLS: barracks, the four words -/
section
variable {b : Nat → Int32} {t : Nat} {σc0 σm0 σc σm : zH} {p : Nat}
theorem BB.mv {σc' σm' : zH} {n bl d : Nat} (B : BB σc σm n bl d) (hc : ∀ k j, k ≠ 7 → ¬ (k = 1 ∧ j = 2) → σc'.1 k 0 j = σc.1 k 0 j) (hm : ∀ k j, ¬ (k = 11 ∧ (j = 31 ∨ j = 32)) → σm'.1 k 0 j = σm.1 k 0 j) : BB σc' σm' n bl d := by
  obtain ⟨b1, b2, ⟨b5, b6, b7⟩, ⟨b8, b9, b10⟩, b11, ⟨w, b12, b13⟩, b14, b15, b16, b17⟩ := B
  refine ⟨by rw [hc _ _ (by omega) (by omega)]; exact b1, b2, ⟨by rw [hc _ _ (by omega) (by omega)]; exact b5, by rw [hc _ _ (by omega) (by omega)]; exact b6, by rw [hc _ _ (by omega) (by omega)]; exact b7⟩, ⟨by rw [hm _ _ (by omega)]; exact b8, by rw [hm _ _ (by omega)]; exact b9, by rw [hm _ _ (by omega)]; exact b10⟩, by rw [hc _ _ (by omega) (by omega), hm _ _ (by omega)]; exact b11, ⟨w, by rw [hc _ _ (by omega) (by omega)]; exact b12, by rw [hm _ _ (by omega)]; exact b13⟩, fun r i hr hi => ?_, fun i hi => ?_, fun r i hr hi => ?_, fun r i hr hi => ?_⟩
  · rw [hc _ _ (by omega) (by omega), hm _ _ (by omega)]; exact b14 r i hr hi
  · rw [hc _ _ (by omega) (by omega)]; exact b15 i hi
  · rw [hc _ _ (by omega) (by omega), hm _ _ (by omega)]; exact b16 r i hr hi
  · rw [hc _ _ (by omega) (by omega), hm _ _ (by omega)]; exact b17 r i hr hi
/-- what the four words' readers do, whichever it is -/
def OUT (b : Nat → Int32) (t : Nat) (σc0 σm0 : zH) (k : Nat) (x y : Option zH) : Prop := ∃ c2 m2 f2 p2, x = some c2 ∧ y = some m2 ∧ ST b t σc0 σm0 c2 m2 f2 p2 ∧ (f2 = 0 → ∃ n bl d, BB c2 m2 n bl d) ∧ (k = 24 → ¬ f2 = 0)
theorem x11_33 {m1 : zH} {k q x3 e : Nat} (F : Bool) (h3 : x3 < 4) (hq : m1.1 11 0 31 = nI q) (hF : d_X11_isFull m1 (nI x3) (nI k) = some (m1, b2i F)) (hw : d_X11_barracksWord m1 (nI x3) = some (m1, e)) :
    j_X11_barracksClause_33 m1 (nI k) (nI q) (nI x3) = if F then d_X11_fails m1 4 (nI q) else d_X11_barracksPart (uI m1 11 0 31 (nI (q + zsN e))) (nI x3) := by
  unfold j_X11_barracksClause_33
  rw [if_neg (show ¬ nI x3 = (4 : Int32) from fun w => by
    have := (nI_eq (a := x3) (b := 4) (by omega) (by omega)).mp w
    omega), hF]
  simp only [Option.bind_some]
  cases F with
  | true =>
    rw [if_neg (show ¬ b2i true = 0 by decide), if_pos rfl]
    cases d_X11_fails m1 4 (nI q) <;> rfl
  | false =>
    rw [if_pos (show b2i false = 0 from rfl), hw, if_neg (by decide)]
    simp only [Option.bind_some, zlet]
    rw [hq, show Int32.ofNat (zsN e) = nI (zsN e) from rfl, show nI q + nI (zsN e) = nI (q + zsN e) from nI_add q (zsN e)]
    cases d_X11_barracksPart (uI m1 11 0 31 (nI (q + zsN e))) (nI x3) <;> rfl
end
