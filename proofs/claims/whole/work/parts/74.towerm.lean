/-! tower of the reference -/
theorem tow171 {M : Mm} : ∃ M', Lp (b_X12_tower_171) 100000 ((0 : Int32), M) = some M' ∧ AR (fun _ => 0) (M' 137) ∧ ∀ o, o ≠ 137 → M' o = M o := by
  have key := Lp_inv (f := b_X12_tower_171) (fun s => ∃ i, i ≤ 23 ∧ s.1 = nI i ∧ (∀ j, j < i → s.2 137 j = nI 0) ∧ ∀ o, o ≠ 137 → s.2 o = M o) (fun s => 23 - s.1.toNatClampNeg) (fun t => (∀ j, j < 23 → t 137 j = nI 0) ∧ ∀ o, o ≠ 137 → t o = M o) ?_ 100000 ((0 : Int32), M) ⟨0, by omega, rfl, fun j hj => by omega, fun _ _ => rfl⟩ (by show 23 - _ < _; omega)
  · exact key
  · rintro ⟨x, Mi⟩ ⟨i, hi, hx, hAi, hF⟩
    simp only at hx hAi hF
    subst hx
    unfold b_X12_tower_171
    simp only [Lt_eq]
    by_cases hin : i = 23
    · subst hin
      exact Or.inr ⟨_, by rw [if_pos (show (23 : Int32) ≤ nI 23 by decide)], hAi, hF⟩
    · refine Or.inl ⟨_, by rw [if_neg (show ¬ (23 : Int32) ≤ nI i from nI_ge (b := 23) (by omega) (by omega)), Gd_t ((ib_nI (by omega)).mpr (by omega)), ix_nI (by omega), nI_1], ⟨i + 1, by omega, rfl, fun j hj => ?_, fun o ho => (s2_ne ho).trans (hF o ho)⟩, ?_⟩
      · show st2 Mi 137 i (0 : Int32) 137 j = _
        rw [s2_at]
        by_cases hj2 : j = i
        · rw [if_pos ⟨rfl, hj2⟩]; rfl
        · rw [if_neg (by omega), hAi j (by omega)]
      · show 23 - (nI (i + 1)).toNatClampNeg < 23 - (nI i).toNatClampNeg
        rw [nI_clamp (by omega), nI_clamp (by omega)]
        omega
theorem tow199 {E : Nat → Nat} {M : Mm} (hA : AR E (M 137)) : ∃ M', Lp (b_X12_tower_199) 100000 ((0 : Int32), M) = some M' ∧ AR (fun j => if 11 ≤ j ∧ j < 17 then j - 11 else E j) (M' 137) ∧ ∀ o, o ≠ 137 → M' o = M o := by
  have key := Lp_inv (f := b_X12_tower_199) (fun s => ∃ i, i ≤ 6 ∧ s.1 = nI i ∧ (∀ j, j < 23 → s.2 137 j = nI (if 11 ≤ j ∧ j < 11 + i then j - 11 else E j)) ∧ ∀ o, o ≠ 137 → s.2 o = M o) (fun s => 6 - s.1.toNatClampNeg) (fun t => (∀ j, j < 23 → t 137 j = nI (if 11 ≤ j ∧ j < 11 + 6 then j - 11 else E j)) ∧ ∀ o, o ≠ 137 → t o = M o) ?_ 100000 ((0 : Int32), M) ⟨0, by omega, rfl, fun j hj => by rw [if_neg (by omega)]; exact hA j hj, fun _ _ => rfl⟩ (by show 6 - _ < _; omega)
  · exact key
  · rintro ⟨x, Mi⟩ ⟨i, hi, hx, hAi, hF⟩
    simp only at hx hAi hF
    subst hx
    unfold b_X12_tower_199
    simp only [Lt_eq]
    by_cases hin : i = 6
    · subst hin
      exact Or.inr ⟨_, by rw [if_pos (show (6 : Int32) ≤ nI 6 by decide)], hAi, hF⟩
    · refine Or.inl ⟨_, by rw [if_neg (show ¬ (6 : Int32) ≤ nI i from nI_ge (b := 6) (by omega) (by omega)), show (11 : Int32) + nI i = nI (11 + i) from nI_add 11 i, Gd_t ((ib_nI (by omega)).mpr (by omega)), ix_nI (by omega), nI_1], ⟨i + 1, by omega, rfl, fun j hj => ?_, fun o ho => (s2_ne ho).trans (hF o ho)⟩, ?_⟩
      · show st2 Mi 137 (11 + i) (nI i) 137 j = _
        rw [s2_at]
        by_cases hj2 : j = 11 + i
        · rw [if_pos ⟨rfl, hj2⟩, if_pos (by omega), show j - 11 = i by omega]
        · rw [if_neg (by omega), hAi j hj]
          by_cases hj3 : 11 ≤ j ∧ j < 11 + i
          · rw [if_pos hj3, if_pos (by omega)]
          · rw [if_neg hj3, if_neg (by omega)]
      · show 6 - (nI (i + 1)).toNatClampNeg < 6 - (nI i).toNatClampNeg
        rw [nI_clamp (by omega), nI_clamp (by omega)]
        omega
theorem towR_ok {n k ns : Nat} {cl : Option Nat} {W Me S : Nat → Nat} {M M1 : Mm} (hV : VD n k ns cl W Me S) (h : f_X12_isRead 129 M = some (1, M1)) (hP : PTr n k ns cl W Me S M1) (hF : FrR M M1) : ∃ M', f_X12_tower 129 M = some (nI n, M') ∧ MT n (kF n k) ns (clF n cl) (meF n k Me) W S M' ∧ M' 129 0 = nI 0 ∧ M' 129 7 = (-1 : Int32) ∧ AR nwE (M' 137) ∧ M' 129 31 = nI 0 ∧ M' 129 33 = nI 0 ∧ M' 129 26 = nI 0 ∧ M' 142 0 = 0 ∧ M' 142 1 = 0 ∧ ∀ o j, ¬ ((o = 129 ∧ ¬ j = 30) ∨ (131 ≤ o ∧ o ≤ 137) ∨ o = 142) → M' o j = M o j := by
  obtain ⟨n6, k12, nsn⟩ := VD_n hV
  obtain ⟨p9, p10, p11, p12, pW, pM, pS⟩ := hP
  unfold f_X12_tower
  simp only [Lt_eq]
  rw [h, Bd_some]
  dsimp only
  rw [if_neg one_ne]
  generalize hA : st2 (st2 M1 129 0 (0 : Int32)) 129 7 (-1 : Int32) = A
  have fA : ∀ o j, ¬ (o = 129 ∧ (j = 0 ∨ j = 7)) → A o j = M1 o j := fun o j g => by rw [← hA, s2_at, if_neg (by omega), s2_at, if_neg (by omega)]
  have A0 : A 129 0 = nI 0 := by rw [← hA, s2_nk (by omega), s2_eq]; rfl
  have A7 : A 129 7 = (-1 : Int32) := by rw [← hA, s2_eq]
  rw [fA 129 9 (by omega), p9, s2_nk (show 11 ≠ 16 by omega), fA 129 11 (by omega), p11]
  generalize hB : st2 (st2 A 129 16 (nI n)) 129 18 (nI ns) = B
  have fB : ∀ o j, ¬ (o = 129 ∧ (j = 16 ∨ j = 18)) → B o j = A o j := fun o j g => by rw [← hB, s2_at, if_neg (by omega), s2_at, if_neg (by omega)]
  have B16 : B 129 16 = nI n := by rw [← hB, s2_nk (by omega), s2_eq]
  have B18 : B 129 18 = nI ns := by rw [← hB, s2_eq]
  have kl1 : kln 131 = 6 ∧ kln 132 = 12 ∧ kln 133 = 6 ∧ kln 134 = 6 ∧ kln 135 = 12 ∧ kln 136 = 6 := by decide
  obtain ⟨l1, l2, l3, l4, l5, l6⟩ := kl1
  obtain ⟨D1, x1, x2, -, x4⟩ := bring_spec (M := B) (o0 := 131) (o2 := 134) (a := 0) (b := 0) (n := 6) (by omega) (by omega) (by omega) (by omega) (Or.inl (by omega))
  rw [show f_X12_bring 131 (0 : Int32) 134 (0 : Int32) (6 : Int32) B = some D1 from x1, Bd_some]
  obtain ⟨D2, y1, y2, -, y4⟩ := bring_spec (M := D1) (o0 := 132) (o2 := 135) (a := 0) (b := 0) (n := 12) (by omega) (by omega) (by omega) (by omega) (Or.inl (by omega))
  rw [show f_X12_bring 132 (0 : Int32) 135 (0 : Int32) (12 : Int32) D1 = some D2 from y1, Bd_some]
  obtain ⟨D3, z1, z2, -, z4⟩ := bring_spec (M := D2) (o0 := 133) (o2 := 136) (a := 0) (b := 0) (n := 6) (by omega) (by omega) (by omega) (by omega) (Or.inl (by omega))
  rw [show f_X12_bring 133 (0 : Int32) 136 (0 : Int32) (6 : Int32) D2 = some D3 from z1, Bd_some]
  have fD : ∀ o, ¬ (134 ≤ o ∧ o ≤ 136) → D3 o = B o := fun o g => by rw [z4 o (by omega), y4 o (by omega), x4 o (by omega)]
  have D16 : D3 129 16 = nI n := by rw [fD 129 (by omega)]; exact B16
  have D10 : D3 129 10 = nI k := by rw [fD 129 (by omega), fB 129 10 (by omega), fA 129 10 (by omega)]; exact p10
  have D12 : D3 129 12 = (match cl with | none => -1 | some c => nI c) := by rw [fD 129 (by omega), fB 129 12 (by omega), fA 129 12 (by omega)]; exact p12
  have w134 : ∀ i, i < n → D3 134 i = nI (W i) := fun i hi => by
    have := x2 i (by omega)
    rw [show 0 + i = i by omega] at this
    rw [z4 134 (by omega), y4 134 (by omega), this, fB 131 i (by omega), fA 131 i (by omega)]
    exact pW i hi
  have w135 : ∀ i, i < k → D3 135 i = nI (Me i) := fun i hi => by
    have := y2 i (by omega)
    rw [show 0 + i = i by omega] at this
    rw [z4 135 (by omega), this, x4 132 (by omega), fB 132 i (by omega), fA 132 i (by omega)]
    exact pM i hi
  have w136 : ∀ i, i < ns → D3 136 i = nI (S i) := fun i hi => by
    have := z2 i (by omega)
    rw [show 0 + i = i by omega] at this
    rw [this, y4 133 (by omega), x4 133 (by omega), fB 133 i (by omega), fA 133 i (by omega)]
    exact pS i hi
  have hv10 : (sl (1 : Int32) (D3 129 16)) - (1 : Int32) = nI (2 ^ n - 1) := by rw [D16]; exact all_spec n (by omega)
  have hj11 : (if (D3 129 10) ≤ 0 then (if (D3 129 16) ≤ 0 then (0 : Int32) else (1 : Int32)) else (D3 129 10)) = nI (kF n k) := by
    unfold kF
    by_cases ck : k = 0
    · subst ck
      rw [if_pos (show D3 129 10 ≤ 0 by rw [D10]; decide), if_pos rfl]
      by_cases cn : n = 0
      · subst cn
        rw [if_pos (show D3 129 16 ≤ 0 by rw [D16]; decide), if_pos rfl]; rfl
      · rw [if_neg (show ¬ D3 129 16 ≤ 0 by rw [D16]; exact nI_nle (by omega) (by omega)), if_neg cn]; rfl
    · rw [if_neg (show ¬ D3 129 10 ≤ 0 by rw [D10]; exact nI_nle (by omega) (by omega)), if_neg ck]
      exact D10
  have i0 : ix (0 : Int32) = 0 := by decide
  have i1 : ix (1 : Int32) = 1 := by decide
  rw [hv10, hj11, i0, i1]
  generalize hG : st2 D3 129 17 (nI (kF n k)) = G
  have fG : ∀ o j, ¬ (o = 129 ∧ j = 17) → G o j = D3 o j := fun o j g => by rw [← hG, s2_at, if_neg g]
  have G17 : G 129 17 = nI (kF n k) := by rw [← hG, s2_eq]
  obtain ⟨v15, hj15, hv15⟩ : ∃ v15 : Int32, (if (G 129 10) ≤ 0 then nI (2 ^ n - 1) else (G 135 0)) = v15 ∧ (0 < kF n k → v15 = nI (meF n k Me 0)) := by
    refine ⟨_, rfl, fun hp => ?_⟩
    unfold meF
    by_cases ck : k = 0
    · subst ck
      rw [if_pos (show G 129 10 ≤ 0 by rw [fG 129 10 (by omega), D10]; decide), if_pos rfl]
    · rw [if_neg (show ¬ G 129 10 ≤ 0 by rw [fG 129 10 (by omega), D10]; exact nI_nle (by omega) (by omega)), if_neg ck, fG 135 0 (by omega)]
      exact w135 0 (by omega)
  rw [hj15]
  generalize hH : st2 G 135 0 v15 = H
  have fH : ∀ o j, ¬ (o = 135 ∧ j = 0) → H o j = G o j := fun o j g => by rw [← hH, s2_at, if_neg g]
  have H0 : H 135 0 = v15 := by rw [← hH, s2_eq]
  have hj18 : (if (H 129 12) < 0 then nI (2 ^ n - 1) else (H 129 12)) = nI (clF n cl) := by
    have e12 : H 129 12 = (match cl with | none => -1 | some c => nI c) := by rw [fH 129 12 (by omega), fG 129 12 (by omega)]; exact D12
    cases cl with
    | none => rw [if_pos (show H 129 12 < 0 by rw [e12]; decide)]; rfl
    | some c =>
      have hc := (hV.2.2.2.2.2.2 c rfl).1
      have h64 := pow_ns n6
      rw [if_neg (show ¬ H 129 12 < 0 by rw [e12]; exact nI_lt0 (by omega))]
      exact e12
  rw [hj18]
  generalize hJ : st2 H 129 19 (nI (clF n cl)) = J
  have fJ : ∀ o j, ¬ (o = 129 ∧ j = 19) → J o j = H o j := fun o j g => by rw [← hJ, s2_at, if_neg g]
  have J19 : J 129 19 = nI (clF n cl) := by rw [← hJ, s2_eq]
  obtain ⟨K1, k1, k2, k3⟩ := tow171 (M := J)
  rw [k1, Bd_some]
  obtain ⟨K2, q1, q2, q3⟩ := toRounds_spec kl_137 k2
  rw [q1, Bd_some]
  obtain ⟨K3, r1, r2, r3⟩ := tow199 q2
  rw [r1, Bd_some, show vp_nar .boolean (0 : Int32) = 0 from rfl]
  have fK : ∀ o, o ≠ 137 → K3 o = J o := fun o g => by rw [r3 o g, q3 o g, k3 o g]
  generalize hL : st2 (st2 (st2 (st2 (st2 K3 129 31 (0 : Int32)) 129 33 (0 : Int32)) 142 0 (0 : Int32)) 142 1 (0 : Int32)) 129 26 (0 : Int32) = L
  have fL : ∀ o j, ¬ ((o = 129 ∧ (j = 31 ∨ j = 33 ∨ j = 26)) ∨ (o = 142 ∧ j ≤ 1)) → L o j = K3 o j := fun o j g => by rw [← hL, s2_at, if_neg (by omega), s2_at, if_neg (by omega), s2_at, if_neg (by omega), s2_at, if_neg (by omega), s2_at, if_neg (by omega)]
  have c9 : ∀ j, ¬ (j = 31 ∨ j = 33 ∨ j = 26) → L 129 j = J 129 j := fun j g => by rw [fL 129 j (by omega), fK 129 (by omega)]
  have L16 : L 129 16 = nI n := by rw [c9 16 (by omega), fJ 129 16 (by omega), fH 129 16 (by omega), fG 129 16 (by omega)]; exact D16
  have cD : ∀ o j, 134 ≤ o → o ≤ 136 → ¬ (o = 135 ∧ j = 0) → L o j = D3 o j := fun o j g1 g2 g3 => by rw [fL o j (by omega), fK o (by omega), fJ o j (by omega), fH o j g3, fG o j (by omega)]
  refine ⟨L, by rw [L16], ⟨L16, by rw [c9 17 (by omega), fJ 129 17 (by omega), fH 129 17 (by omega)]; exact G17, by rw [c9 18 (by omega), fJ 129 18 (by omega), fH 129 18 (by omega), fG 129 18 (by omega), fD 129 (by omega)]; exact B18, by rw [c9 19 (by omega)]; exact J19, fun i hi => ?_, fun i hi => by rw [cD 134 i (by omega) (by omega) (by omega)]; exact w134 i hi, fun i hi => by rw [cD 136 i (by omega) (by omega) (by omega)]; exact w136 i hi⟩, by rw [c9 0 (by omega), fJ 129 0 (by omega), fH 129 0 (by omega), fG 129 0 (by omega), fD 129 (by omega), fB 129 0 (by omega)]; exact A0, by rw [c9 7 (by omega), fJ 129 7 (by omega), fH 129 7 (by omega), fG 129 7 (by omega), fD 129 (by omega), fB 129 7 (by omega)]; exact A7, fun j hj => ?_, ?_, ?_, ?_, ?_, ?_, fun o j g => ?_⟩
  · by_cases ci : i = 0
    · subst ci
      rw [fL 135 0 (by omega), fK 135 (by omega), fJ 135 0 (by omega), H0]
      exact hv15 hi
    · rw [cD 135 i (by omega) (by omega) (by omega)]
      have hkF : kF n k = k := by
        unfold kF at hi ⊢
        by_cases ck : k = 0
        · rw [if_pos ck] at hi
          split at hi <;> omega
        · rw [if_neg ck]
      rw [hkF] at hi
      unfold meF
      rw [if_neg (by omega)]
      exact w135 i hi
  · rw [fL 137 j (by omega), r2 j hj]
    unfold nwE rnE
    by_cases e1 : 5 ≤ j ∧ j < 11
    · rw [if_neg (by omega), if_neg (by omega), if_pos e1, if_pos e1]
    · rw [if_neg e1]
      by_cases e2 : 11 ≤ j ∧ j < 17
      · rw [if_pos e2, if_pos e2]
      · rw [if_neg e2, if_neg e2]
        by_cases e3 : j = 1 ∨ j = 2
        · rw [if_pos e3]
        · rw [if_neg e3]
          try rw [if_neg e1]
  · rw [← hL, s2_nk (by omega), s2_ne (by omega), s2_ne (by omega), s2_nk (by omega), s2_eq]; rfl
  · rw [← hL, s2_nk (by omega), s2_ne (by omega), s2_ne (by omega), s2_eq]; rfl
  · rw [← hL, s2_eq]; rfl
  · rw [← hL, s2_ne (by omega), s2_nk (by omega), s2_eq]
  · rw [← hL, s2_ne (by omega), s2_eq]
  · rw [fL o j (by omega), fK o (by omega), fJ o j (by omega), fH o j (by omega), fG o j (by omega), fD o (by omega), fB o j (by omega), fA o j (by omega), hF o j (by omega)]
