/-! tower of the reference -/
theorem tow171 {M : Mm} : ∃ M', Lp (b_X12_tower_171) 100000 ((0 : Int32), M) = some M' ∧ AR (fun _ => 0) (M' 136) ∧ ∀ o, o ≠ 136 → M' o = M o := by
  have key := Lp_inv (f := b_X12_tower_171) (fun s => ∃ i, i ≤ 23 ∧ s.1 = nI i ∧ (∀ j, j < i → s.2 136 j = nI 0) ∧ ∀ o, o ≠ 136 → s.2 o = M o) (fun s => 23 - s.1.toNatClampNeg) (fun t => (∀ j, j < 23 → t 136 j = nI 0) ∧ ∀ o, o ≠ 136 → t o = M o) ?_ 100000 ((0 : Int32), M) ⟨0, by omega, rfl, fun j hj => by omega, fun _ _ => rfl⟩ (by show 23 - _ < _; omega)
  · exact key
  · rintro ⟨x, Mi⟩ ⟨i, hi, hx, hAi, hF⟩
    simp only at hx hAi hF
    subst hx
    unfold b_X12_tower_171
    simp only [Lt_eq]
    by_cases hin : i = 23
    · subst hin
      exact Or.inr ⟨_, by rw [if_pos (show (23 : Int32) ≤ nI 23 by decide)], hAi, hF⟩
    · refine Or.inl ⟨_, by rw [if_neg (show ¬ (23 : Int32) ≤ nI i from nI_ge (b := 23) (by omega) (by omega)), Gd_t ((ib_nI (by omega)).mpr (by omega)), ix_nI (by omega), nI_1], ⟨i + 1, by omega, rfl, fun j hj => ?_, fun o ho => (s2_ne ho).trans (hF o ho)⟩, ?_⟩
      · show st2 Mi 136 i (0 : Int32) 136 j = _
        rw [s2_at]
        by_cases hj2 : j = i
        · rw [if_pos ⟨rfl, hj2⟩]; rfl
        · rw [if_neg (by omega), hAi j (by omega)]
      · show 23 - (nI (i + 1)).toNatClampNeg < 23 - (nI i).toNatClampNeg
        rw [nI_clamp (by omega), nI_clamp (by omega)]
        omega
theorem tow199 {E : Nat → Nat} {M : Mm} (hA : AR E (M 136)) : ∃ M', Lp (b_X12_tower_199) 100000 ((0 : Int32), M) = some M' ∧ AR (fun j => if 11 ≤ j ∧ j < 17 then j - 11 else E j) (M' 136) ∧ ∀ o, o ≠ 136 → M' o = M o := by
  have key := Lp_inv (f := b_X12_tower_199) (fun s => ∃ i, i ≤ 6 ∧ s.1 = nI i ∧ (∀ j, j < 23 → s.2 136 j = nI (if 11 ≤ j ∧ j < 11 + i then j - 11 else E j)) ∧ ∀ o, o ≠ 136 → s.2 o = M o) (fun s => 6 - s.1.toNatClampNeg) (fun t => (∀ j, j < 23 → t 136 j = nI (if 11 ≤ j ∧ j < 11 + 6 then j - 11 else E j)) ∧ ∀ o, o ≠ 136 → t o = M o) ?_ 100000 ((0 : Int32), M) ⟨0, by omega, rfl, fun j hj => by rw [if_neg (by omega)]; exact hA j hj, fun _ _ => rfl⟩ (by show 6 - _ < _; omega)
  · exact key
  · rintro ⟨x, Mi⟩ ⟨i, hi, hx, hAi, hF⟩
    simp only at hx hAi hF
    subst hx
    unfold b_X12_tower_199
    simp only [Lt_eq]
    by_cases hin : i = 6
    · subst hin
      exact Or.inr ⟨_, by rw [if_pos (show (6 : Int32) ≤ nI 6 by decide)], hAi, hF⟩
    · refine Or.inl ⟨_, by rw [if_neg (show ¬ (6 : Int32) ≤ nI i from nI_ge (b := 6) (by omega) (by omega)), show (11 : Int32) + nI i = nI (11 + i) from nI_add 11 i, Gd_t ((ib_nI (by omega)).mpr (by omega)), ix_nI (by omega), nI_1], ⟨i + 1, by omega, rfl, fun j hj => ?_, fun o ho => (s2_ne ho).trans (hF o ho)⟩, ?_⟩
      · show st2 Mi 136 (11 + i) (nI i) 136 j = _
        rw [s2_at]
        by_cases hj2 : j = 11 + i
        · rw [if_pos ⟨rfl, hj2⟩, if_pos (by omega), show j - 11 = i by omega]
        · rw [if_neg (by omega), hAi j hj]
          by_cases hj3 : 11 ≤ j ∧ j < 11 + i
          · rw [if_pos hj3, if_pos (by omega)]
          · rw [if_neg hj3, if_neg (by omega)]
      · show 6 - (nI (i + 1)).toNatClampNeg < 6 - (nI i).toNatClampNeg
        rw [nI_clamp (by omega), nI_clamp (by omega)]
        omega
def towT2 (r9 : Mm) : Option (Int32 × Mm) :=
  Lt ((sl (1 : Int32) (r9 128 16)) - (1 : Int32)) (fun v10 => Lt (((if (r9 128 10) ≤ 0 then (if (r9 128 16) ≤ 0 then (0 : Int32) else (1 : Int32)) else (r9 128 10))) : Int32) (fun j11 => Lt (st2 r9 128 17 j11) (fun M14 => Lt (((if (M14 128 10) ≤ 0 then v10 else (M14 134 (ix (0 : Int32))))) : Int32) (fun j15 => Lt (st2 M14 134 (ix (0 : Int32)) j15) (fun M17 => Lt (((if (M17 128 12) < 0 then v10 else (M17 128 12))) : Int32) (fun j18 => Lt (st2 M17 128 19 j18) (fun M20 => Bd (Lp (b_X12_tower_171) 100000 ((0 : Int32), M20)) (fun e25 => Bd (f_X12_toRounds 136 e25) (fun r26 => Bd (Lp (b_X12_tower_199) 100000 ((0 : Int32), r26)) (fun e31 => Lt (st2 e31 128 31 (0 : Int32)) (fun M32 => Lt (st2 M32 128 33 (0 : Int32)) (fun M33 => Lt (st2 M33 141 (ix (0 : Int32)) (vp_nar .boolean (0 : Int32))) (fun M34 => Lt (st2 M34 141 (ix (1 : Int32)) (vp_nar .boolean (0 : Int32))) (fun M35 => Lt (st2 M35 128 26 (0 : Int32)) (fun M36 => some ((M36 128 16), M36))))))))))))))))
def towT1 (M4 : Mm) : Option (Int32 × Mm) :=
  Lt (st2 M4 128 16 (M4 128 9)) (fun M5 => Lt (st2 M5 128 18 (M5 128 11)) (fun M6 => Bd (f_X12_bring 130 (0 : Int32) 133 (0 : Int32) (6 : Int32) M6) (fun r7 => Bd (f_X12_bring 131 (0 : Int32) 134 (0 : Int32) (12 : Int32) r7) (fun r8 => Bd (f_X12_bring 132 (0 : Int32) 135 (0 : Int32) (6 : Int32) r8) (fun r9 => towT2 r9)))))
theorem tower_eq (M : Mm) : f_X12_tower 128 M = Bd (f_X12_isRead 128 M) (fun r1 => Lt (st2 r1.2 128 0 (0 : Int32)) (fun M2 => (if r1.1 = 0 then some (((-10 : Int32) - (M2 128 8)), M2) else Lt (st2 M2 128 7 (-1 : Int32)) (fun M4 => towT1 M4)))) := rfl
theorem nar0 : vp_nar .boolean (0 : Int32) = 0 := rfl
theorem towT2_ok {n k : Nat} {cl : Option Nat} {Me : Nat → Nat} {D3 : Mm} (n6 : n ≤ 6) (k12 : k ≤ 12) (hcl : ∀ c, cl = some c → c < 2 ^ n) (D16 : D3 128 16 = nI n) (D10 : D3 128 10 = nI k) (D12 : (cl = none → D3 128 12 = (-1 : Int32)) ∧ ∀ c, cl = some c → D3 128 12 = nI c) (w135 : ∀ i, i < k → D3 134 i = nI (Me i)) : ∃ L, towT2 D3 = some (nI n, L) ∧ L 128 17 = nI (kF n k) ∧ L 128 19 = nI (clF n cl) ∧ (∀ i, i < kF n k → L 134 i = nI (meF n k Me i)) ∧ AR nwE (L 136) ∧ L 128 31 = nI 0 ∧ L 128 33 = nI 0 ∧ L 128 26 = nI 0 ∧ L 141 0 = 0 ∧ L 141 1 = 0 ∧ ∀ o j, ¬ ((o = 128 ∧ (j = 17 ∨ j = 19 ∨ j = 31 ∨ j = 33 ∨ j = 26)) ∨ o = 134 ∨ o = 136 ∨ o = 141) → L o j = D3 o j := by
  unfold towT2
  simp only [Lt_eq]
  have hv10 : (sl (1 : Int32) (D3 128 16)) - (1 : Int32) = nI (2 ^ n - 1) := by rw [D16]; exact all_spec n (by omega)
  have hj11 : (if (D3 128 10) ≤ 0 then (if (D3 128 16) ≤ 0 then (0 : Int32) else (1 : Int32)) else (D3 128 10)) = nI (kF n k) := by
    unfold kF
    by_cases ck : k = 0
    · subst ck
      rw [if_pos (show D3 128 10 ≤ 0 by rw [D10]; decide), if_pos rfl]
      by_cases cn : n = 0
      · subst cn
        rw [if_pos (show D3 128 16 ≤ 0 by rw [D16]; decide), if_pos rfl]; rfl
      · rw [if_neg (show ¬ D3 128 16 ≤ 0 by rw [D16]; exact nI_nle (by omega) (by omega)), if_neg cn]; rfl
    · rw [if_neg (show ¬ D3 128 10 ≤ 0 by rw [D10]; exact nI_nle (by omega) (by omega)), if_neg ck]
      exact D10
  have i0 : ix (0 : Int32) = 0 := by decide
  have i1 : ix (1 : Int32) = 1 := by decide
  rw [hv10, hj11, i0, i1]
  generalize hG : st2 D3 128 17 (nI (kF n k)) = G
  have fG : ∀ o j, ¬ (o = 128 ∧ j = 17) → G o j = D3 o j := fun o j g => by rw [← hG, s2_at, if_neg g]
  have G17 : G 128 17 = nI (kF n k) := by rw [← hG, s2_eq]
  obtain ⟨v15, hj15, hv15⟩ : ∃ v15 : Int32, (if (G 128 10) ≤ 0 then nI (2 ^ n - 1) else (G 134 0)) = v15 ∧ (0 < kF n k → v15 = nI (meF n k Me 0)) := by
    refine ⟨_, rfl, fun hp => ?_⟩
    unfold meF
    by_cases ck : k = 0
    · subst ck
      rw [if_pos (show G 128 10 ≤ 0 by rw [fG 128 10 (by omega), D10]; decide), if_pos rfl]
    · rw [if_neg (show ¬ G 128 10 ≤ 0 by rw [fG 128 10 (by omega), D10]; exact nI_nle (by omega) (by omega)), if_neg ck, fG 134 0 (by omega)]
      exact w135 0 (by omega)
  rw [hj15]
  generalize hH : st2 G 134 0 v15 = H
  have fH : ∀ o j, ¬ (o = 134 ∧ j = 0) → H o j = G o j := fun o j g => by rw [← hH, s2_at, if_neg g]
  have H0 : H 134 0 = v15 := by rw [← hH, s2_eq]
  have hj18 : (if (H 128 12) < 0 then nI (2 ^ n - 1) else (H 128 12)) = nI (clF n cl) := by
    have e12 : H 128 12 = D3 128 12 := by rw [fH 128 12 (by omega), fG 128 12 (by omega)]
    rw [e12]
    cases cl with
    | none => rw [D12.1 rfl]; rfl
    | some c =>
      have hc := hcl c rfl
      have h64 := pow_ns n6
      rw [D12.2 c rfl, if_neg (show ¬ nI c < 0 from nI_lt0 (by omega))]
      rfl
  rw [hj18]
  generalize hJ : st2 H 128 19 (nI (clF n cl)) = J
  have fJ : ∀ o j, ¬ (o = 128 ∧ j = 19) → J o j = H o j := fun o j g => by rw [← hJ, s2_at, if_neg g]
  have J19 : J 128 19 = nI (clF n cl) := by rw [← hJ, s2_eq]
  obtain ⟨K1, k1, k2, k3⟩ := tow171 (M := J)
  rw [k1, Bd_some]
  obtain ⟨K2, q1, q2, q3⟩ := toRounds_spec kl_137 k2
  rw [q1, Bd_some]
  obtain ⟨K3, r1, r2, r3⟩ := tow199 q2
  rw [r1, Bd_some, nar0]
  have fK : ∀ o, o ≠ 136 → K3 o = J o := fun o g => by rw [r3 o g, q3 o g, k3 o g]
  generalize hL : st2 (st2 (st2 (st2 (st2 K3 128 31 (0 : Int32)) 128 33 (0 : Int32)) 141 0 (0 : Int32)) 141 1 (0 : Int32)) 128 26 (0 : Int32) = L
  have fL : ∀ o j, ¬ ((o = 128 ∧ (j = 31 ∨ j = 33 ∨ j = 26)) ∨ (o = 141 ∧ j ≤ 1)) → L o j = K3 o j := fun o j g => by rw [← hL, s2_at, if_neg (by omega), s2_at, if_neg (by omega), s2_at, if_neg (by omega), s2_at, if_neg (by omega), s2_at, if_neg (by omega)]
  have c9 : ∀ j, ¬ (j = 31 ∨ j = 33 ∨ j = 26) → L 128 j = J 128 j := fun j g => by rw [fL 128 j (by omega), fK 128 (by omega)]
  have L16 : L 128 16 = nI n := by rw [c9 16 (by omega), fJ 128 16 (by omega), fH 128 16 (by omega), fG 128 16 (by omega)]; exact D16
  refine ⟨L, by rw [L16], by rw [c9 17 (by omega), fJ 128 17 (by omega), fH 128 17 (by omega)]; exact G17, by rw [c9 19 (by omega)]; exact J19, fun i hi => ?_, fun j hj => ?_, ?_, ?_, ?_, ?_, ?_, fun o j g => ?_⟩
  · by_cases ci : i = 0
    · subst ci
      rw [fL 134 0 (by omega), fK 134 (by omega), fJ 134 0 (by omega), H0]
      exact hv15 hi
    · rw [fL 134 i (by omega), fK 134 (by omega), fJ 134 i (by omega), fH 134 i (by omega), fG 134 i (by omega)]
      have hkF : kF n k = k ∧ ¬ k = 0 := by
        unfold kF at hi ⊢
        by_cases ck : k = 0
        · rw [if_pos ck] at hi
          by_cases cn : n = 0
          · rw [if_pos cn] at hi; omega
          · rw [if_neg cn] at hi; omega
        · rw [if_neg ck]; exact ⟨rfl, ck⟩
      rw [hkF.1] at hi
      unfold meF
      rw [if_neg hkF.2]
      exact w135 i hi
  · rw [fL 136 j (by omega), r2 j hj]
    show nI (if 11 ≤ j ∧ j < 17 then j - 11 else if j = 1 ∨ j = 2 then 0 else if 5 ≤ j ∧ j < 11 then j - 5 else 0) = nI (if 5 ≤ j ∧ j < 11 then j - 5 else if 11 ≤ j ∧ j < 17 then j - 11 else 0)
    by_cases e1 : 5 ≤ j ∧ j < 11
    · rw [if_neg (show ¬ (11 ≤ j ∧ j < 17) by omega), if_neg (show ¬ (j = 1 ∨ j = 2) by omega), if_pos e1, if_pos e1]
    · rw [if_neg e1, if_neg e1]
      by_cases e2 : 11 ≤ j ∧ j < 17
      · rw [if_pos e2, if_pos e2]
      · rw [if_neg e2, if_neg e2]
        by_cases e3 : j = 1 ∨ j = 2
        · rw [if_pos e3]
        · rw [if_neg e3]
  · rw [← hL, s2_nk (by omega), s2_ne (by omega), s2_ne (by omega), s2_nk (by omega), s2_eq]; rfl
  · rw [← hL, s2_nk (by omega), s2_ne (by omega), s2_ne (by omega), s2_eq]; rfl
  · rw [← hL, s2_eq]; rfl
  · rw [← hL, s2_ne (by omega), s2_nk (by omega), s2_eq]
  · rw [← hL, s2_ne (by omega), s2_eq]
  · rw [fL o j (by omega), fK o (by omega), fJ o j (by omega), fH o j (by omega), fG o j (by omega)]
