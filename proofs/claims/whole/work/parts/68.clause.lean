/-! a clause, in both -/
def VD (n k ns : Nat) (cl : Option Nat) (W Me S : Nat → Nat) : Prop := ((n = 0 ∧ k = 0 ∧ ns = 0 ∧ cl = none) ∨ (3 ≤ n ∧ n ≤ 6)) ∧ k ≤ 12 ∧ ns ≤ n ∧ (∀ i, i < n → W i < 32) ∧ (∀ i, i < k → Me i < 2 ^ n ∧ isC n (Me i) = true) ∧ (∀ i, i < ns → S i < 32) ∧ ∀ c, cl = some c → c < 2 ^ n ∧ isC n c = true
def TK (len : Nat) (tx : Nat → Nat) (q : Nat) (M : Mm) : Prop := M 128 3 = nI q ∧ (¬ (48 ≤ tx q ∧ tx q ≤ 57) → M 128 4 = nI (tx q) ∧ M 128 2 = nI (q + 1)) ∧ ((48 ≤ tx q ∧ tx q ≤ 57) → M 128 4 = (-1 : Int32))
/-- the fault of a clause's word: 0 is none -/
def fwD (n k ns : Nat) (cl : Option Nat) (w : Nat) : Nat := if n = 0 then (if w = 98 then 0 else 1) else if w = 98 then 3 else if w = 99 then (if cl = none then 0 else 3) else if w = 109 then (if k = 0 then 0 else 3) else if w = 114 then (if n ≤ ns then 3 else 0) else 1
theorem fw_spec {dt n k ns w : Nat} {cl : Option Nat} {W Me S : Nat → Nat} {M : Mm} (h : PTc dt n k ns cl W Me S M) (hV : VD n k ns cl W Me S) (hw : w < 1000) : f_X7_faultOfWord (nI w) dt M = some (nI (fwD n k ns cl w)) := by
  obtain ⟨c0, c2, c3, c4, c5, -⟩ := h
  obtain ⟨v0, v1, v2, -⟩ := hV
  have hne : ∀ c : Nat, c < 1000 → ¬ w = c → ¬ nI w = nI c := fun c hc hh z => hh (nI_inj (by omega) (by omega) z)
  unfold f_X7_faultOfWord fwD
  by_cases hn : n = 0
  · rw [stands_0 (by rw [c2, hn]), if_pos rfl, if_pos hn]
    by_cases h98 : w = 98
    · rw [if_pos (show nI w = (98 : Int32) by rw [h98]; rfl), if_pos h98]; rfl
    · rw [if_neg (show ¬ nI w = (98 : Int32) from hne 98 (by omega) h98), if_neg h98]; rfl
  · rw [stands_1 c2 (by omega) (by omega), if_neg one_ne, if_neg hn]
    by_cases h98 : w = 98
    · rw [if_pos (show nI w = (98 : Int32) by rw [h98]; rfl), if_pos h98]; rfl
    · rw [if_neg (show ¬ nI w = (98 : Int32) from hne 98 (by omega) h98), if_neg h98]
      by_cases h99 : w = 99
      · rw [if_pos (show nI w = (99 : Int32) by rw [h99]; rfl), if_pos h99]
        cases cl with
        | none => rw [if_pos (show M dt 3 = 0 from c5), if_pos rfl]; rfl
        | some c => rw [if_neg (show ¬ M dt 3 = 0 by rw [c5]; exact one_ne), if_neg (by simp)]; rfl
      · rw [if_neg (show ¬ nI w = (99 : Int32) from hne 99 (by omega) h99), if_neg h99]
        by_cases h109 : w = 109
        · rw [if_pos (show nI w = (109 : Int32) by rw [h109]; rfl), if_pos h109]
          by_cases hk : k = 0
          · rw [if_pos (show M dt 1 ≤ 0 by rw [c3, hk]; decide), if_pos hk]; rfl
          · rw [if_neg (show ¬ M dt 1 ≤ 0 by rw [c3]; exact nI_nle (by omega) (by omega)), if_neg hk]; rfl
        · rw [if_neg (show ¬ nI w = (109 : Int32) from hne 109 (by omega) h109), if_neg h109]
          by_cases h114 : w = 114
          · rw [if_pos (show nI w = (114 : Int32) by rw [h114]; rfl), if_pos h114]
            by_cases hs : n ≤ ns
            · rw [if_pos (show M dt 0 ≤ M dt 2 by rw [c2, c4]; exact nI_le hs (by omega)), if_pos hs]; rfl
            · rw [if_neg (show ¬ M dt 0 ≤ M dt 2 by rw [c2, c4]; exact nI_ge (by omega) (by omega)), if_neg hs]; rfl
          · rw [if_neg (show ¬ nI w = (114 : Int32) from hne 114 (by omega) h114), if_neg h114]; rfl
theorem fwD_le (n k ns : Nat) (cl : Option Nat) (w : Nat) : fwD n k ns cl w ≤ 3 := by
  unfold fwD
  split
  · split <;> omega
  · split
    · omega
    · split
      · split <;> omega
      · split
        · split <;> omega
        · split
          · split <;> omega
          · omega
/-- the class: the word is at fault -/
theorem rcl_bad {len q dt n k ns : Nat} {cl : Option Nat} {tx W Me S : Nat → Nat} {M : Mm} (hc : CTx len tx M) (h4 : M 35 3 = nI q) (hq : q < len) (h : PTc dt n k ns cl W Me S M) (hV : VD n k ns cl W Me S) (hf : ¬ fwD n k ns cl (tx q) = 0) : ∃ M', f_X7_readClause 35 dt M = some M' ∧ M' 35 5 = nI (fwD n k ns cl (tx q)) ∧ M' 35 1 = nI q ∧ FrC dt M M' := by
  have ht := (hc.2.2 q hq).1
  have hl := fwD_le n k ns cl (tx q)
  unfold f_X7_readClause f_X7_fail
  simp only [Lt_eq]
  rw [here_in hc h4 hq, Bd_some, fw_spec h hV (by omega), Bd_some, if_neg (nI_ne0 (by omega) (by omega)), h4, Bd_some]
  exact ⟨_, rfl, by rw [s2_nk (by omega), s2_eq], by rw [s2_eq], fun o j g => by rw [s2_at, if_neg (by omega), s2_at, if_neg (by omega)]⟩
/-- the class: the word is fine, its numbers are read -/
theorem rcl_go {len q dt n k ns : Nat} {cl : Option Nat} {tx W Me S : Nat → Nat} {M : Mm} (hc : CTx len tx M) (h4 : M 35 3 = nI q) (hq : q < len) (h : PTc dt n k ns cl W Me S M) (hV : VD n k ns cl W Me S) (hf : fwD n k ns cl (tx q) = 0) : f_X7_readClause 35 dt M = Lp (b_X7_readClause_47 35 dt (nI (tx q)) (nI (mostW (tx q)))) 100000 ((1 : Int32), (1 : Int32), st2 M 35 3 (nI (q + 1))) := by
  have ht := (hc.2.2 q hq).1
  unfold f_X7_readClause
  simp only [Lt_eq]
  rw [here_in hc h4 hq, Bd_some, fw_spec h hV (by omega), Bd_some, hf, if_pos (show nI 0 = 0 from rfl), most_spec (by omega), Bd_some, h4, nI_1]
  cases Lp (b_X7_readClause_47 35 dt (nI (tx q)) (nI (mostW (tx q)))) 100000 ((1 : Int32), (1 : Int32), st2 M 35 3 (nI (q + 1))) <;> rfl
