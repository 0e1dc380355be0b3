theorem law_step {L i : Nat} {xs : Nat → Int32} {M : Mm} (htow : ∀ M : Mm, InvX M → ∃ r M1 M2, f_X11_tower 0 M = some (r, M1) ∧ f_X12_tower 128 M1 = some (r, M2) ∧ InvX M2) (hL : L ≤ 1536) (hi : i + 3 ≤ L) (h : InvX M) : ∃ M', b_L_law_18 L xs (nI i, M) = some (.inl (nI (i + 3), M')) ∧ InvX M' := by
  have e1 : nI i + (1 : Int32) = nI (i + 1) := nI_add i 1
  have e2 : nI i + (2 : Int32) = nI (i + 2) := nI_add i 2
  have e3 : nI i + (3 : Int32) = nI (i + 3) := nI_add i 3
  have b0 : ib (nI i) L := (ib_nI (by omega)).mpr (by omega)
  have b1 : ib (nI i + (1 : Int32)) L := by rw [e1]; exact (ib_nI (by omega)).mpr (by omega)
  have b2 : ib (nI i + (2 : Int32)) L := by rw [e2]; exact (ib_nI (by omega)).mpr (by omega)
  have c0 : ¬ (nI L - (3 : Int32)) < nI i := by
    rw [show nI L - (3 : Int32) = nI (L - 3) from pk_sub (b := 3) (by omega)]
    exact nI_nlt (by omega) (by omega)
  unfold b_L_law_18
  simp only [Lt_eq, Gd_t b0, Gd_t b1, Gd_t b2, e3]
  rw [if_neg c0]
  generalize (xs (ix (nI i)) &&& (63 : Int32)) = op
  generalize xs (ix (nI i + (1 : Int32))) = x1
  generalize xs (ix (nI i + (2 : Int32))) = x2
  by_cases k0 : op = (0 : Int32)
  · obtain ⟨r, M1, M2, g1, g2, g3⟩ := op_feed x1 h
    rw [if_pos k0, g1, Bd_some]
    dsimp only
    rw [g2, Bd_some, if_pos rfl]
    exact ⟨M2, rfl, g3⟩
  rw [if_neg k0]
  by_cases k1 : op = (1 : Int32)
  · obtain ⟨r, M1, M2, g1, g2, g3⟩ := htow M h
    rw [if_pos k1, g1, Bd_some]
    dsimp only
    rw [g2, Bd_some, if_pos rfl]
    exact ⟨M2, rfl, g3⟩
  rw [if_neg k1]
  by_cases k2 : op = (2 : Int32)
  · rw [if_pos k2, if_pos (op_fault h)]
    exact ⟨M, rfl, h⟩
  rw [if_neg k2]
  by_cases k3 : op = (3 : Int32)
  · obtain ⟨r, M2, g1, g2, g3⟩ := op_told x1 h
    rw [if_pos k3, g1, Bd_some, g2, Bd_some, if_pos rfl]
    exact ⟨M2, rfl, g3⟩
  rw [if_neg k3]
  by_cases k4 : op = (4 : Int32)
  · obtain ⟨r, g1, g2⟩ := op_method x1 h
    rw [if_pos k4, g1, Bd_some, g2, Bd_some, if_pos rfl]
    exact ⟨M, rfl, h⟩
  rw [if_neg k4]
  by_cases k5 : op = (5 : Int32)
  · obtain ⟨r, g1, g2⟩ := op_bell x1 x2 h
    rw [if_pos k5, g1, Bd_some, g2, Bd_some, if_pos rfl]
    exact ⟨M, rfl, h⟩
  rw [if_neg k5]
  by_cases k6 : op = (6 : Int32)
  · obtain ⟨r, g1, g2⟩ := op_suitor x1 x2 h
    rw [if_pos k6, g1, Bd_some, g2, Bd_some, if_pos rfl]
    exact ⟨M, rfl, h⟩
  rw [if_neg k6]
  by_cases k7 : op = (7 : Int32)
  · obtain ⟨r, M1, M2, g1, g2, g3⟩ := op_ring x1 h
    rw [if_pos k7, g1, Bd_some]
    dsimp only
    rw [g2, Bd_some, if_pos rfl]
    exact ⟨M2, rfl, g3⟩
  rw [if_neg k7]
  by_cases k8 : op = (8 : Int32)
  · obtain ⟨r, M1, M2, g1, g2, g3⟩ := op_call h
    rw [if_pos k8, g1, Bd_some]
    dsimp only
    rw [g2, Bd_some, if_pos rfl]
    exact ⟨M2, rfl, g3⟩
  rw [if_neg k8]
  by_cases k9 : op = (9 : Int32)
  · obtain ⟨r, M1, M2, g1, g2, g3⟩ := op_swap x1 x2 h
    rw [if_pos k9, g1, Bd_some]
    dsimp only
    rw [g2, Bd_some, if_pos rfl]
    exact ⟨M2, rfl, g3⟩
  rw [if_neg k9]
  by_cases k10 : op = (10 : Int32)
  · obtain ⟨r, M1, M2, g1, g2, g3⟩ := op_stand h
    rw [if_pos k10, g1, Bd_some]
    dsimp only
    rw [g2, Bd_some, if_pos rfl]
    exact ⟨M2, rfl, g3⟩
  rw [if_neg k10]
  by_cases k11 : op = (11 : Int32)
  · obtain ⟨r, M1, M2, g1, g2, g3⟩ := op_wet (if x1 = 0 then (0 : Int32) else (1 : Int32)) (by split <;> simp) h
    rw [if_pos k11, g1, Bd_some]
    dsimp only
    rw [g2, Bd_some, if_pos rfl]
    exact ⟨M2, rfl, g3⟩
  rw [if_neg k11]
  by_cases k12 : op = (12 : Int32)
  · obtain ⟨r, M1, M2, g1, g2, g3⟩ := op_forgive x1 h
    rw [if_pos k12, g1, Bd_some]
    dsimp only
    rw [g2, Bd_some, if_pos rfl]
    exact ⟨M2, rfl, g3⟩
  rw [if_neg k12]
  by_cases k13 : op = (13 : Int32)
  · obtain ⟨r, M1, M2, g1, g2, g3⟩ := op_drift x1 h
    rw [if_pos k13, g1, Bd_some]
    dsimp only
    rw [g2, Bd_some, if_pos rfl]
    exact ⟨M2, rfl, g3⟩
  rw [if_neg k13]
  by_cases k14 : op = (14 : Int32)
  · obtain ⟨r, M1, M2, g1, g2, g3⟩ := op_undo h
    rw [if_pos k14, g1, Bd_some]
    dsimp only
    rw [g2, Bd_some, if_pos rfl]
    exact ⟨M2, rfl, g3⟩
  rw [if_neg k14]
  by_cases k15 : op = (15 : Int32)
  · obtain ⟨r, M1, M2, g1, g2, g3⟩ := op_rowAt x1 h
    rw [if_pos k15, g1, Bd_some]
    dsimp only
    rw [g2, Bd_some, if_pos rfl]
    exact ⟨M2, rfl, g3⟩
  rw [if_neg k15]
  by_cases k16 : op = (16 : Int32)
  · obtain ⟨r, M1, M2, g1, g2, g3⟩ := op_placeAt x1 x2 h
    rw [if_pos k16, g1, Bd_some]
    dsimp only
    rw [g2, Bd_some, if_pos rfl]
    exact ⟨M2, rfl, g3⟩
  rw [if_neg k16]
  by_cases k17 : op = (17 : Int32)
  · obtain ⟨r, M1, M2, g1, g2, g3⟩ := op_round h
    rw [if_pos k17, g1, Bd_some]
    dsimp only
    rw [g2, Bd_some, if_pos rfl]
    exact ⟨M2, rfl, g3⟩
  rw [if_neg k17]
  by_cases k18 : op = (18 : Int32)
  · obtain ⟨r, M1, M2, g1, g2, g3⟩ := op_trueFor h
    rw [if_pos k18, g1, Bd_some]
    dsimp only
    rw [g2, Bd_some, if_pos rfl]
    exact ⟨M2, rfl, g3⟩
  rw [if_neg k18]
  by_cases k19 : op = (19 : Int32)
  · obtain ⟨r, M1, M2, g1, g2, g3⟩ := op_touch x1 x2 h
    rw [if_pos k19, g1, Bd_some]
    dsimp only
    rw [g2, Bd_some, if_pos rfl]
    exact ⟨M2, rfl, g3⟩
  rw [if_neg k19]
  by_cases k20 : op = (20 : Int32)
  · obtain ⟨r, M1, M2, g1, g2, g3⟩ := op_ropes x1 h
    rw [if_pos k20, g1, Bd_some]
    dsimp only
    rw [g2, Bd_some, if_pos rfl]
    exact ⟨M2, rfl, g3⟩
  rw [if_neg k20]
  by_cases k21 : op = (21 : Int32)
  · obtain ⟨r, M1, M2, g1, g2, g3⟩ := op_last x1 x2 h
    rw [if_pos k21, g1, Bd_some]
    dsimp only
    rw [g2, Bd_some, if_pos rfl]
    exact ⟨M2, rfl, g3⟩
  rw [if_neg k21]
  by_cases k22 : op = (22 : Int32)
  · obtain ⟨r, M1, M2, g1, g2, g3⟩ := op_nextOut h
    rw [if_pos k22, g1, Bd_some]
    dsimp only
    rw [g2, Bd_some, if_pos rfl]
    exact ⟨M2, rfl, g3⟩
  rw [if_neg k22]
  by_cases k23 : op = (23 : Int32)
  · obtain ⟨r, M1, M2, g1, g2, g3⟩ := op_change x1 x2 h
    rw [if_pos k23, g1, Bd_some]
    dsimp only
    rw [g2, Bd_some, if_pos rfl]
    exact ⟨M2, rfl, g3⟩
  rw [if_neg k23]
  by_cases k24 : op = (24 : Int32)
  · obtain ⟨r, g1, g2⟩ := op_follow h
    rw [if_pos k24, g1, Bd_some, g2, Bd_some, if_pos rfl]
    exact ⟨M, rfl, h⟩
  rw [if_neg k24]
  by_cases k25 : op = (25 : Int32)
  · obtain ⟨r, M1, M2, g1, g2, g3⟩ := op_gap x1 x2 h
    rw [if_pos k25, g1, Bd_some]
    dsimp only
    rw [g2, Bd_some, if_pos rfl]
    exact ⟨M2, rfl, g3⟩
  rw [if_neg k25]
  by_cases k26 : op = (26 : Int32)
  · obtain ⟨r, g1, g2⟩ := op_dry x1 x2
    rw [if_pos k26, g1, Bd_some, g2, Bd_some, if_pos rfl]
    exact ⟨M, rfl, h⟩
  rw [if_neg k26]
  by_cases k27 : op = (27 : Int32)
  · obtain ⟨r, M1, M2, g1, g2, g3⟩ := op_hear x1 x2 h
    rw [if_pos k27, g1, Bd_some]
    dsimp only
    rw [g2, Bd_some, if_pos rfl]
    exact ⟨M2, rfl, g3⟩
  rw [if_neg k27]
  by_cases k28 : op = (28 : Int32)
  · obtain ⟨r, M1, M2, g1, g2, g3⟩ := op_listen h
    rw [if_pos k28, g1, Bd_some]
    dsimp only
    rw [g2, Bd_some, if_pos rfl]
    exact ⟨M2, rfl, g3⟩
  rw [if_neg k28]
  by_cases k29 : op = (29 : Int32)
  · obtain ⟨r, M1, M2, g1, g2, g3⟩ := op_write x1 x2 h
    rw [if_pos k29, g1, Bd_some]
    dsimp only
    rw [g2, Bd_some, if_pos rfl]
    exact ⟨M2, rfl, g3⟩
  rw [if_neg k29]
  by_cases k30 : op = (30 : Int32)
  · obtain ⟨r, M1, M2, g1, g2, g3⟩ := op_tear h
    rw [if_pos k30, g1, Bd_some]
    dsimp only
    rw [g2, Bd_some, if_pos rfl]
    exact ⟨M2, rfl, g3⟩
  rw [if_neg k30]
  by_cases k31 : op = (31 : Int32)
  · obtain ⟨r, g1, g2⟩ := op_judge h
    rw [if_pos k31, g1, Bd_some, g2, Bd_some, if_pos rfl]
    exact ⟨M, rfl, h⟩
  rw [if_neg k31]
  by_cases k32 : op = (32 : Int32)
  · obtain ⟨r, M1, M2, g1, g2, g3⟩ := op_seed x1 h
    rw [if_pos k32, g1, Bd_some]
    dsimp only
    rw [g2, Bd_some, if_pos rfl]
    exact ⟨M2, rfl, g3⟩
  rw [if_neg k32]
  by_cases k33 : op = (33 : Int32)
  · obtain ⟨r, M1, M2, g1, g2, g3⟩ := op_keep x1 h
    rw [if_pos k33, g1, Bd_some]
    dsimp only
    rw [g2, Bd_some, if_pos rfl]
    exact ⟨M2, rfl, g3⟩
  rw [if_neg k33]
  by_cases k34 : op = (34 : Int32)
  · obtain ⟨r, M1, M2, g1, g2, g3⟩ := op_goBack x1 h
    rw [if_pos k34, g1, Bd_some]
    dsimp only
    rw [g2, Bd_some, if_pos rfl]
    exact ⟨M2, rfl, g3⟩
  rw [if_neg k34]
  exact ⟨M, rfl, h⟩
theorem law_run {L : Nat} {xs : Nat → Int32} {M : Mm} (htow : ∀ M : Mm, InvX M → ∃ r M1 M2, f_X11_tower 0 M = some (r, M1) ∧ f_X12_tower 128 M1 = some (r, M2) ∧ InvX M2) (hL : L ≤ 1536) (h : InvX M) : ∃ v, f_law L xs M = some v := by
  have key := Lp_inv (f := b_L_law_18 L xs) (fun s => ∃ i, i ≤ L + 3 ∧ s.1 = nI i ∧ InvX s.2) (fun s => 2000 - s.1.toNatClampNeg) (fun r => ∃ Mx, r = .inr Mx) (fun s hs => by
    obtain ⟨i, hi, hx, hI⟩ := hs
    obtain ⟨x, Mi⟩ := s
    simp only at hx hI
    subst hx
    by_cases hin : i + 3 ≤ L
    · obtain ⟨M', g1, g2⟩ := law_step (xs := xs) htow hL hin hI
      refine Or.inl ⟨(nI (i + 3), M'), g1, ⟨i + 3, by omega, rfl, g2⟩, ?_⟩
      show 2000 - (nI (i + 3)).toNatClampNeg < 2000 - (nI i).toNatClampNeg
      rw [nI_clamp (by omega), nI_clamp (by omega)]
      omega
    · refine Or.inr ⟨.inr Mi, ?_, Mi, rfl⟩
      unfold b_L_law_18
      rw [if_pos]
      show (nI L - (3 : Int32)) < nI i
      rw [Int32.lt_iff_toInt_lt, show (nI L - (3 : Int32)).toInt = (L : Int) - 3 from pk_sub_toInt (b := 3) (by omega) (by omega), nI_toInt (by omega)]
      omega) 100000 ((0 : Int32), M) ⟨0, by omega, rfl, h⟩ (by show 2000 - _ < _; omega)
  obtain ⟨r, k1, Mx, rfl⟩ := key
  exact ⟨(), by unfold f_law; rw [k1]; rfl⟩
