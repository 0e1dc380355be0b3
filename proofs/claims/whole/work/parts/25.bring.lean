/-- the reference's copy of n cells, from one array to another, or down within one -/
theorem bring_spec {M : Mm} {o0 o2 a b n : Nat} (h0 : a + n ≤ kln o0) (h2 : b + n ≤ kln o2) (hk0 : kln o0 ≤ 2000) (hk2 : kln o2 ≤ 2000) (hov : o0 ≠ o2 ∨ b ≤ a) : ∃ M', f_X12_bring o0 (nI a) o2 (nI b) (nI n) M = some M' ∧ (∀ j, j < n → M' o2 (b + j) = M o0 (a + j)) ∧ (∀ j, j < b ∨ b + n ≤ j → M' o2 j = M o2 j) ∧ ∀ o, o ≠ o2 → M' o = M o := by
  unfold f_X12_bring
  have key := Lp_inv (f := b_X12_bring_3 o0 (nI a) o2 (nI b) (nI n)) (fun s => ∃ i, i ≤ n ∧ s.1 = nI i ∧ (∀ j, j < i → s.2 o2 (b + j) = M o0 (a + j)) ∧ (∀ j, j < b ∨ b + i ≤ j → s.2 o2 j = M o2 j) ∧ ∀ o, o ≠ o2 → s.2 o = M o) (fun s => n - s.1.toNatClampNeg) (fun t => (∀ j, j < n → t o2 (b + j) = M o0 (a + j)) ∧ (∀ j, j < b ∨ b + n ≤ j → t o2 j = M o2 j) ∧ ∀ o, o ≠ o2 → t o = M o) ?_ 100000 ((0 : Int32), M) ⟨0, by omega, rfl, fun j hj => by omega, fun _ _ => rfl, fun _ _ => rfl⟩ (by show n - _ < _; omega)
  · obtain ⟨M', g1, g2⟩ := key
    exact ⟨M', by rw [g1]; rfl, g2⟩
  · rintro ⟨x, Mi⟩ ⟨i, hi, hx, hA, hB, hF⟩
    simp only at hx hA hB hF
    subst hx
    unfold b_X12_bring_3
    simp only [Lt_eq]
    by_cases hin : i = n
    · subst hin
      exact Or.inr ⟨_, by rw [if_pos (nI_le (Nat.le_refl _) (by omega))], hA, hB, hF⟩
    · refine Or.inl ?_
      rw [if_neg (nI_ge (show i < n by omega) (by omega)), nI_add, nI_add, Gd_t ((ib_nI (by omega)).mpr (by omega)), Gd_t ((ib_nI (by omega)).mpr (by omega)), ix_nI (by omega), ix_nI (by omega), nI_1]
      have hv : Mi o0 (a + i) = M o0 (a + i) := by
        by_cases ho : o0 = o2
        · subst ho
          have hba : b ≤ a := by
            rcases hov with h | h
            · exact absurd rfl h
            · exact h
          exact hB _ (by omega)
        · rw [hF o0 ho]
      refine ⟨_, rfl, ⟨i + 1, by omega, rfl, fun j hj => ?_, fun j hj => ?_, fun o ho => (congrFun rfl o).trans ((s2_ne ho).trans (hF o ho))⟩, ?_⟩
      · show st2 Mi o2 (b + i) (Mi o0 (a + i)) o2 (b + j) = _
        by_cases hji : j = i
        · subst hji
          rw [s2_eq, hv]
        · rw [s2_nk (by omega)]
          exact hA j (by omega)
      · show st2 Mi o2 (b + i) (Mi o0 (a + i)) o2 j = _
        rw [s2_nk (by omega)]
        exact hB j (by omega)
      · show n - (nI (i + 1)).toNatClampNeg < n - (nI i).toNatClampNeg
        rw [nI_clamp (by omega), nI_clamp (by omega)]
        omega
/-- Evening.copyFrom -/
theorem copyFrom_spec {e d n k ns : Nat} {E : Nat → Nat} {M : Mm} (hC : CE d n k E M) (hE : EV n k ns E) (hed : e + 3 < d ∨ d + 3 < e) : ∃ M', f_X1_copyFrom e d M = some M' ∧ CE e n k E M' ∧ ∀ o, (o < e ∨ e + 3 < o) → M' o = M o := by
  obtain ⟨c1, c2, c3, ⟨w0, w1, w2⟩, cR, cT⟩ := hC
  obtain ⟨e0, e1, e2, e3, -⟩ := hE
  unfold f_X1_copyFrom f_X10_copyFrom
  simp only [Lt_eq]
  have z2 : zb (M (d + 1) 2) := by rw [w2]; exact zb_nI e2
  have z3 : zb (M d 3) := by rw [c3]; exact zb_nI e3
  simp only [s2_ne (show d + 1 ≠ e + 1 by omega), Gd_t z2, Bd_some, s2_ne (show d ≠ e + 1 by omega), s2_ne (show d ≠ e by omega), Gd_t z3, stA_ne (show d + 3 ≠ e + 2 by omega), s2_ne (show d + 2 ≠ e by omega), s2_ne (show d + 2 ≠ e + 1 by omega), s2_ne (show d + 3 ≠ e by omega), s2_ne (show d + 3 ≠ e + 1 by omega), show ix (0 : Int32) = 0 by decide, show ix (6 : Int32) = 6 by decide]
  refine ⟨_, rfl, ⟨?_, ?_, ?_, ⟨?_, ?_, ?_⟩, fun r hr => ?_, fun r hr => ?_⟩, fun o ho => ?_⟩
  · rw [stA_ne (by omega), stA_ne (by omega), s2_nk (by omega), s2_nk (by omega), s2_eq, c1]
  · rw [stA_ne (by omega), stA_ne (by omega), s2_nk (by omega), s2_eq, c2]
  · rw [stA_ne (by omega), stA_ne (by omega), s2_eq, c3]
  · rw [stA_ne (by omega), stA_ne (by omega), s2_ne (by omega), s2_ne (by omega), s2_ne (by omega), s2_nk (by omega), s2_nk (by omega), s2_eq, w0]
  · rw [stA_ne (by omega), stA_ne (by omega), s2_ne (by omega), s2_ne (by omega), s2_ne (by omega), s2_nk (by omega), s2_eq, w1]
  · rw [stA_ne (by omega), stA_ne (by omega), s2_ne (by omega), s2_ne (by omega), s2_ne (by omega), s2_eq, w2]
  · rw [stA_ne (by omega), stA_self, pk_cpy_in (by omega) (by omega)]
    rw [show 0 + (r - 0) = r by omega]
    exact cR r hr
  · rw [stA_self, pk_cpy_in (by omega) (by omega)]
    rw [show 0 + (r - 0) = r by omega]
    exact cT r hr
  · rw [stA_ne (by omega), stA_ne (by omega), s2_ne (by omega), s2_ne (by omega), s2_ne (by omega), s2_ne (by omega), s2_ne (by omega), s2_ne (by omega)]
