/-! the worlds as made stand side by side -/
theorem nσ0_1 (k i j : Nat) : nσ0.1 k i j = nw_up (nsg k) j := rfl
theorem nσ0_z {k : Nat} (h : nsg k = []) (i j : Nat) : nσ0.1 k i j = 0 := by rw [nσ0_1, h]; rfl
theorem nqR0 : qR nσ0 nσ0 := by
  refine ⟨rTape_0 rfl rfl, ⟨0, by omega, by rw [nI_0]; rfl, by rw [nI_0]; rfl, fun r hr => by omega⟩, ⟨qE0 nσ0 0 0 0 0, 0, qD0 0, ?_⟩, fun k hk => ⟨false, rfl, rfl, fun h => by cases h⟩, rfl, fun s h1 h2 n i e hn hi => ?_⟩
  · have hC : rC nσ0 (0 + 1) (qE0 nσ0 0 0 0 0) := rC_e0 (by omega) (by omega) (by omega) (by rw [nI_0]; rfl) (by rw [nI_0]; rfl) (by rw [nI_0]; rfl) (fun r i _ hi => by omega) (fun r i _ hi => by omega) (fun r i _ hi => by omega)
    have hM : rMC nσ0 (-1) (qE0 nσ0 0 0 0 0) := rMC_e0 (by omega) (by omega) (by omega) (by rw [nI_0]; rfl) (by rw [nI_0]; rfl) (by rw [nI_0]; rfl) rfl rfl (fun r i _ hi => by omega) (fun r i _ hi => by omega) (fun r i _ hi => by omega)
    have hO : qOK (qE0 nσ0 0 0 0 0) (qD0 0) := qOK_e0 (by omega) (by decide)
    refine ⟨⟨hC, ⟨rfl, rfl, rfl, rfl, rfl, rfl, fun r i _ _ _ hi => ?_, fun i hi => ?_⟩, hO, rfl⟩, ⟨hM, ⟨rfl, rfl, rfl, fun r i _ hi => ?_⟩, hO, rfl⟩, ⟨rfl, rfl⟩, ⟨by decide, by decide⟩, ⟨fun _ => rfl, fun _ => rfl⟩, by decide, ⟨0, 0, by omega, by omega, by rw [nI_0]; rfl, by rw [nI_0]; rfl, by rw [nI_0]; rfl, fun k h1 h2 => by omega⟩, rfl, 0, by omega, by rw [nI_0]; rfl, by rw [nI_0]; rfl, fun i hi => by omega⟩
    · exact absurd hi (Nat.not_lt_zero i)
    · exact absurd hi (Nat.not_lt_zero i)
    · exact absurd hi (Nat.not_lt_zero i)
  · have e : (0 : Int32) = nI n := e
    have : n = 0 := by
      have h3 := congrArg Int32.toNatClampNeg e
      rw [show (nI n).toNatClampNeg = n from nI_clamp (by omega)] at h3
      exact h3.symm
    omega
