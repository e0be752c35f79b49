/-- the machine of the constructors is the walk -/
theorem nrun_ok (X : zX) (base : Nat) : ∀ (f y : Nat) (es : List nw_r) (cs : List nw_C) (L st : List zAV) (kc ks : Nat) (cs' : List nw_C) (K S : Nat), nrun f y es cs L st kc ks = some (cs', K, S) → y < 12 → es.all (nok y) = true → nsq es = true → nG X base y cs' K S es cs L st kc ks
  | 0, _, _, _, _, _, _, _, _, _, _, h, _, _, _ => by cases h
  | f + 1, y, [], cs, L, st, kc, ks, cs', K, S, h, _, _, _ => by cases h
  | f + 1, y, (pc, o, a, b, z, w) :: es, cs, L, st, kc, ks, cs', K, S, h, hy, hk, hs => by
    have IH := nrun_ok X base f
    rw [List.all_cons, Bool.and_eq_true] at hk
    obtain ⟨hk, hk2⟩ := hk
    have hs2 := nsq_tl hs
    have hT := nch_at y hy
    have hJ := nfind_ok (t := a) (nT y) hT.1 hT.2.1
    have hJp : ∀ {cs L st kc ks r}, nrun f y (nw_find a (nT y)) cs L st kc ks = some r → nw_pc (nw_find a (nT y)) = a := fun h => (nfind_pc (nT y)).resolve_left (fun q => by rw [q, nrun_nil] at h; cases h)
    match o, h, hk, hs with
    | 0, h, hk, hs =>
      rw [nrun_0] at h
      obtain ⟨k, i, e, h1⟩ := zvR_some h
      exact nG_aload hk (nsq_nx hs (by dsimp only; decide) (by dsimp only; decide)) e (IH _ _ _ _ _ _ _ _ _ _ h1 hy hk2 hs2)
    | 1, h, hk, hs =>
      rw [nrun_1] at h
      obtain ⟨x, e, h1⟩ := zvI_some h
      exact nG_iload hk (nsq_nx hs (by dsimp only; decide) (by dsimp only; decide)) e (IH _ _ _ _ _ _ _ _ _ _ h1 hy hk2 hs2)
    | 2, h, hk, hs =>
      rw [nrun_2] at h
      obtain ⟨x, t, rfl, h1⟩ := zpI_some h
      exact nG_istore hk (nsq_nx hs (by dsimp only; decide) (by dsimp only; decide)) (IH _ _ _ _ _ _ _ _ _ _ h1 hy hk2 hs2)
    | 3, h, hk, hs =>
      rw [nrun_3] at h
      exact nG_const hk (nsq_nx hs (by dsimp only; decide) (by dsimp only; decide)) (IH _ _ _ _ _ _ _ _ _ _ h hy hk2 hs2)
    | 4, h, hk, hs =>
      rw [nrun_4] at h
      obtain ⟨v, t, rfl, h1⟩ := zp1_some h
      obtain ⟨hc, h2⟩ := gd_some h1
      exact nG_dup hk (nsq_nx hs (by dsimp only; decide) (by dsimp only; decide)) hc (IH _ _ _ _ _ _ _ _ _ _ h2 hy hk2 hs2)
    | 5, h, hk, hs =>
      rw [nrun_5] at h
      obtain ⟨hc, h1⟩ := gd_some h
      have hm := nrun_mono _ _ _ _ _ _ _ _ _ _ _ h1
      exact nG_new hk (nsq_nx hs (by dsimp only; decide) (by dsimp only; decide)) (nand2 hc).1 (nand2 hc).2 hm.1 hm.2.1 (IH _ _ _ _ _ _ _ _ _ _ h1 hy hk2 hs2)
    | 6, h, hk, hs =>
      rw [nrun_6] at h
      obtain ⟨x, t, rfl, h1⟩ := zpI_some h
      obtain ⟨hc, h2⟩ := gd_some h1
      have hm := nrun_mono _ _ _ _ _ _ _ _ _ _ _ h2
      obtain ⟨hc, c4⟩ := nand2 hc
      obtain ⟨hc, c3⟩ := nand2 hc
      exact nG_newa hk (nsq_nx hs (by dsimp only; decide) (by dsimp only; decide)) (nand2 hc).1 (nand2 hc).2 (of_decide_eq_true c3) (Nat.le_of_ble_eq_true c4) hm.1 hm.2.1 (IH _ _ _ _ _ _ _ _ _ _ h2 hy hk2 hs2)
    | 7, h, hk, hs =>
      rw [nrun_7] at h
      obtain ⟨x, t, rfl, h1⟩ := zpI_some h
      obtain ⟨hc, h2⟩ := gd_some h1
      have hm := nrun_mono _ _ _ _ _ _ _ _ _ _ _ h2
      obtain ⟨hc, c4⟩ := nand2 hc
      obtain ⟨hc, c3⟩ := nand2 hc
      exact nG_newq hk (nsq_nx hs (by dsimp only; decide) (by dsimp only; decide)) (nand2 hc).1 (nand2 hc).2 (of_decide_eq_true c3) (Nat.le_of_ble_eq_true c4) hm.1 hm.2.1 (IH _ _ _ _ _ _ _ _ _ _ h2 hy hk2 hs2)
    | 8, h, hk, hs =>
      rw [nrun_8] at h
      obtain ⟨k, i, t, rfl, h1⟩ := zpR_some h
      obtain ⟨hc, h2⟩ := gd_some h1
      have ht : t = [] := List.isEmpty_iff.mp hc
      subst ht
      exact nG_obj hk (nsq_nx hs (by dsimp only; decide) (by dsimp only; decide)) (IH _ _ _ _ _ _ _ _ _ _ h2 hy hk2 hs2)
    | 9, h, hk, hs =>
      rw [nrun_9] at h
      obtain ⟨hc, h1⟩ := gd_some h
      obtain ⟨hc, c4⟩ := nand2 hc
      obtain ⟨hc, c3⟩ := nand2 hc
      split at h1
      · rename_i q hq
        obtain ⟨cs1, k1, s1⟩ := q
        obtain ⟨hd, hw⟩ := nok_dec hk
        obtain ⟨hw, w3⟩ := nand2 hw
        obtain ⟨hw, w2⟩ := nand2 hw
        obtain ⟨hw, w1⟩ := nand2 hw
        obtain ⟨hw, w0⟩ := nand2 hw
        have hb : b < 12 := nw_blt hw
        have hT2 := nch_at b hb
        have m1 := nrun_mono _ _ _ _ _ _ _ _ _ _ _ hq
        have m2 := nrun_mono _ _ _ _ _ _ _ _ _ _ _ h1
        refine nG_call hb (nw_blt w0) hd (nsq_nx hs (by dsimp only; decide) (by dsimp only; decide)) (nand2 hc).1 (nand2 hc).2 (Nat.le_of_ble_eq_true c3) c4 m1.2.2.1 m1.2.2.2 m2.1 m2.2.1 (fun al ho => nmet hb ?_ ho (nT0 b hb) (IH _ _ _ _ _ _ _ _ _ _ hq hb hT2.1 hT2.2.1)) (fun s args hg hn => ⟨Or.inl (hg _ (zwd_in w1)), hg _ (zwd_in w2), hg _ (zwd_in w3)⟩) (IH _ _ _ _ _ _ _ _ _ _ h1 hy hk2 hs2) rfl
        exact nfl_le hb c4
      · cases h1
    | 10, h, hk, hs =>
      rw [nrun_10] at h
      obtain ⟨v, t, rfl, h1⟩ := zp1_some h
      obtain ⟨k, i, t, rfl, h2⟩ := zpR_some h1
      split at h2
      · rename_i q hq
        obtain ⟨hc, h3⟩ := gd_some h2
        obtain ⟨hc, c4⟩ := nand2 hc
        obtain ⟨hc, c3⟩ := nand2 hc
        obtain ⟨hc, c2⟩ := nand2 hc
        exact nG_put hy hk (nsq_nx hs (by dsimp only; decide) (by dsimp only; decide)) hq (Nat.eq_of_beq_eq_true hc) c2 c3 (nw_blt c4) (IH _ _ _ _ _ _ _ _ _ _ h3 hy hk2 hs2)
      · cases h2
    | 11, h, hk, hs =>
      rw [nrun_11] at h
      obtain ⟨k, i, t, rfl, h2⟩ := zpR_some h
      split at h2
      · rename_i q hq
        obtain ⟨hc, h3⟩ := gd_some h2
        split at h3
        · rename_i v hv
          exact nG_get hy hk (nsq_nx hs (by dsimp only; decide) (by dsimp only; decide)) hq (Nat.eq_of_beq_eq_true hc) hv (IH _ _ _ _ _ _ _ _ _ _ h3 hy hk2 hs2)
        · cases h3
      · cases h2
    | 12, h, hk, hs =>
      rw [nrun_12] at h
      obtain ⟨x, t, rfl, h1⟩ := zpI_some h
      obtain ⟨j, t, rfl, h1b⟩ := zpI_some h1
      obtain ⟨k, i, t, rfl, h2⟩ := zpR_some h1b
      split at h2
      · rename_i q hq
        obtain ⟨hc, h3⟩ := gd_some h2
        obtain ⟨hc, c3⟩ := nand2 hc
        obtain ⟨hc, c2⟩ := nand2 hc
        exact nG_iast hk (nsq_nx hs (by dsimp only; decide) (by dsimp only; decide)) hq (Nat.eq_of_beq_eq_true hc) (of_decide_eq_true c2) (nw_blt c3) (IH _ _ _ _ _ _ _ _ _ _ h3 hy hk2 hs2)
      · cases h2
    | 13, h, hk, hs =>
      rw [nrun_13] at h
      obtain ⟨k, v, t, rfl, h1⟩ := zpR_some h
      obtain ⟨j, t, rfl, h1b⟩ := zpI_some h1
      obtain ⟨k, i, t, rfl, h2⟩ := zpR_some h1b
      split at h2
      · rename_i q u hq hu
        obtain ⟨hc, h3⟩ := gd_some h2
        obtain ⟨hc, c6⟩ := nand2 hc
        obtain ⟨hc, c5⟩ := nand2 hc
        obtain ⟨hc, c4⟩ := nand2 hc
        obtain ⟨hc, c3⟩ := nand2 hc
        obtain ⟨hc, c2⟩ := nand2 hc
        exact nG_aast hk (nsq_nx hs (by dsimp only; decide) (by dsimp only; decide)) hq hu (nw_blt hc) (of_decide_eq_true c2) (nw_blt c3) (of_decide_eq_true c4) (nw_blt c5) (nw_blt c6) (IH _ _ _ _ _ _ _ _ _ _ h3 hy hk2 hs2)
      · cases h2
    | 14, h, hk, hs =>
      rw [nrun_14] at h
      obtain ⟨x, e, h1⟩ := zvI_some h
      exact nG_iinc hk (nsq_nx hs (by dsimp only; decide) (by dsimp only; decide)) e (IH _ _ _ _ _ _ _ _ _ _ h1 hy hk2 hs2)
    | 15, h, hk, hs =>
      rw [nrun_15] at h
      obtain ⟨x2, t, rfl, h1⟩ := zpI_some h
      obtain ⟨x1, t, rfl, h2⟩ := zpI_some h1
      refine nG_icmp hk (nsq_nx hs (by dsimp only; decide) (by dsimp only; decide)) (fun q => ?_) (fun q => ?_)
      · rw [if_pos q] at h2
        exact IH _ _ _ _ _ _ _ _ _ _ h2 hy hk2 hs2
      · rw [if_neg q] at h2
        exact ⟨hJp h2, IH _ _ _ _ _ _ _ _ _ _ h2 hy hJ.1 hJ.2⟩
    | 16, h, hk, hs =>
      rw [nrun_16] at h
      exact nG_goto hk (hJp h) (IH _ _ _ _ _ _ _ _ _ _ h hy hJ.1 hJ.2)
    | 17, h, hk, hs =>
      rw [nrun_17] at h
      obtain ⟨hc, h1⟩ := gd_some h
      have ht : st = [] := List.isEmpty_iff.mp hc
      subst ht
      cases h1
      exact nG_ret hk
    | 18, h, hk, hs =>
      rw [nrun_18] at h
      obtain ⟨hc, h1⟩ := gd_some h
      obtain ⟨hc, c4⟩ := nand2 hc
      obtain ⟨hc, c3⟩ := nand2 hc
      split at h1
      · rename_i q hq
        obtain ⟨cs1, k1, s1⟩ := q
        obtain ⟨hd, hw⟩ := nok_dec hk
        obtain ⟨hw, w3⟩ := nand2 hw
        obtain ⟨hw, w2⟩ := nand2 hw
        obtain ⟨hw, w1⟩ := nand2 hw
        obtain ⟨hw, w0⟩ := nand2 hw
        have hb : b < 12 := nw_blt hw
        have hT2 := nch_at b hb
        have m1 := nrun_mono _ _ _ _ _ _ _ _ _ _ _ hq
        have m2 := nrun_mono _ _ _ _ _ _ _ _ _ _ _ h1
        refine nG_call hb (nw_blt w0) hd (nsq_nx hs (by dsimp only; decide) (by dsimp only; decide)) (nand2 hc).1 (nand2 hc).2 (Nat.le_of_ble_eq_true c3) c4 m1.2.2.1 m1.2.2.2 m2.1 m2.2.1 (fun al ho => nmet hb ?_ ho (nT0 b hb) (IH _ _ _ _ _ _ _ _ _ _ hq hb hT2.1 hT2.2.1)) (fun s args hg hn => ⟨Or.inr (hn.1 _ _ _ _ (by simpa using w1)), hg _ (zwd_in w2), hg _ (zwd_in w3)⟩) (IH _ _ _ _ _ _ _ _ _ _ h1 hy hk2 hs2) rfl
        exact nfl_le hb c4
      · cases h1
    | 19, h, hk, hs =>
      rw [nrun_19] at h
      obtain ⟨k, i, t, rfl, h1⟩ := zpR_some h
      exact nG_astore hk (nsq_nx hs (by dsimp only; decide) (by dsimp only; decide)) (IH _ _ _ _ _ _ _ _ _ _ h1 hy hk2 hs2)
    | n + 20, h, hk, hs => cases h
