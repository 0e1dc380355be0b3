theorem tk_iff {len q c : Nat} {tx : Nat → Nat} {M : Mm} (h : TK len tx q M) (ht : tx q < 256) (hc : 58 ≤ c) (hc2 : c < 200) : M 128 4 = nI c ↔ tx q = c := by
  by_cases d : 48 ≤ tx q ∧ tx q ≤ 57
  · rw [h.2.2 d]
    exact ⟨fun z => absurd z.symm (nI_m1 (by omega)), fun z => by omega⟩
  · rw [(h.2.1 d).1]
    exact ⟨fun z => nI_inj (by omega) (by omega) z, fun z => by rw [z]⟩
/-- the reference: the word is at fault -/
theorem icl_bad {len q n k ns : Nat} {cl : Option Nat} {tx W Me S : Nat → Nat} {M : Mm} (ht : tx q < 256) (hk : TK len tx q M) (h : PTr n k ns cl W Me S M) (hV : VD n k ns cl W Me S) (hf : ¬ fwD n k ns cl (tx q) = 0) : f_X12_isClause 128 M = some (0, st2 (st2 M 128 7 (M 128 3)) 128 8 (nI (fwD n k ns cl (tx q)))) := by
  obtain ⟨c1, c2, c3, c4, -⟩ := h
  obtain ⟨v0, v1, v2, v3, v4, v5, v6⟩ := hV
  have i98 : M 128 4 = (98 : Int32) ↔ tx q = 98 := tk_iff (c := 98) hk ht (by omega) (by omega)
  have i99 : M 128 4 = (99 : Int32) ↔ tx q = 99 := tk_iff (c := 99) hk ht (by omega) (by omega)
  have i109 : M 128 4 = (109 : Int32) ↔ tx q = 109 := tk_iff (c := 109) hk ht (by omega) (by omega)
  have i114 : M 128 4 = (114 : Int32) ↔ tx q = 114 := tk_iff (c := 114) hk ht (by omega) (by omega)
  have gz : ∀ fl : Int32, Bd (f_X12_fails 128 fl M) (fun r5 => Gd (zb r5.1) (some (r5.1, r5.2))) = some ((0 : Int32), st2 (st2 M 128 7 (M 128 3)) 128 8 fl) := fun fl => by
    rw [failsR, Bd_some]
    dsimp only
    rw [Gd_t (Or.inl rfl)]
  have gz2 : ∀ fl : Int32, Bd (Bd (f_X12_fails 128 fl M) (fun r5 => Gd (zb r5.1) (some (r5.1, r5.2)))) (fun r5 => Gd (zb r5.1) (some (r5.1, r5.2))) = some ((0 : Int32), st2 (st2 M 128 7 (M 128 3)) 128 8 fl) := fun fl => by
    rw [gz, Bd_some]
    dsimp only
    rw [Gd_t (Or.inl rfl)]
  unfold f_X12_isClause
  by_cases h98 : tx q = 98
  · rw [if_pos (i98.mpr h98)]
    have hn : ¬ n = 0 := fun z => hf (by unfold fwD; rw [if_pos z, if_pos h98])
    have hfw : fwD n k ns cl (tx q) = 3 := by unfold fwD; rw [if_neg hn, if_pos h98]
    rw [if_neg (show ¬ M 128 9 ≤ 0 by rw [c1]; exact nI_nle (by omega) (by omega)), hfw]
    exact gz 3
  · rw [if_neg (fun z => h98 (i98.mp z))]
    by_cases hn : n = 0
    · have hfw : fwD n k ns cl (tx q) = 1 := by unfold fwD; rw [if_pos hn, if_neg h98]
      rw [if_pos (show M 128 9 = 0 by rw [c1, hn]; rfl), hfw]
      exact gz 1
    · rw [if_neg (show ¬ M 128 9 = 0 by rw [c1]; exact nI_ne0 (by omega) (by omega))]
      by_cases h109 : tx q = 109
      · rw [if_pos (i109.mpr h109)]
        have hk0 : ¬ k = 0 := fun z => hf (by unfold fwD; rw [if_neg hn, if_neg h98, if_neg (by omega), if_pos h109, if_pos z])
        have hfw : fwD n k ns cl (tx q) = 3 := by unfold fwD; rw [if_neg hn, if_neg h98, if_neg (by omega), if_pos h109, if_neg hk0]
        unfold f_X12_isMethod
        rw [if_neg (show ¬ M 128 10 ≤ 0 by rw [c2]; exact nI_nle (by omega) (by omega)), hfw]
        exact gz2 3
      · rw [if_neg (fun z => h109 (i109.mp z))]
        by_cases h114 : tx q = 114
        · rw [if_pos (i114.mpr h114)]
          have hs : n ≤ ns := by
            apply Classical.byContradiction
            intro z
            exact hf (by unfold fwD; rw [if_neg hn, if_neg h98, if_neg (by omega), if_neg h109, if_pos h114, if_neg z])
          have hfw : fwD n k ns cl (tx q) = 3 := by unfold fwD; rw [if_neg hn, if_neg h98, if_neg (by omega), if_neg h109, if_pos h114, if_pos hs]
          unfold f_X12_isSuitorItem
          rw [if_pos (show M 128 11 = M 128 9 by rw [c1, c3, show ns = n by omega]), hfw]
          exact gz2 3
        · rw [if_neg (fun z => h114 (i114.mp z))]
          by_cases h99 : tx q = 99
          · rw [if_pos (i99.mpr h99)]
            cases hcl : cl with
            | none => exact absurd (by unfold fwD; rw [if_neg hn, if_neg h98, if_pos h99, if_pos hcl]) hf
            | some c =>
              have hc6 := v6 c hcl
              have h64 := pow_ns (show n ≤ 6 by omega)
              have hfw : fwD n k ns (some c) (tx q) = 3 := by unfold fwD; rw [if_neg hn, if_neg h98, if_pos h99, if_neg (by simp)]
              rw [hcl] at c4
              have c4' : M 128 12 = nI c := c4
              unfold f_X12_isCall
              rw [if_neg (show ¬ M 128 12 < 0 by rw [c4']; exact nI_lt0 (by omega)), hfw]
              exact gz2 3
          · rw [if_neg (fun z => h99 (i99.mp z))]
            have hfw : fwD n k ns cl (tx q) = 1 := by unfold fwD; rw [if_neg hn, if_neg h98, if_neg h99, if_neg h109, if_neg h114]
            rw [hfw]
            exact gz 1
