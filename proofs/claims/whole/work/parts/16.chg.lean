/-! a change: which places stay, where each place's bell comes from -/
def par (c : Nat) : Nat → Bool
  | 0 => false
  | p + 1 => if c.testBit p then false else !(par c p)
def isC (n c : Nat) : Bool := !(par c n) && (List.range n).all (fun p => !(c.testBit p) || !(par c p))
def pm (c p : Nat) : Nat := if c.testBit p then p else if par c p then p - 1 else p + 1
theorem isC_end {n c : Nat} (h : isC n c = true) : par c n = false := by
  simp only [isC, Bool.and_eq_true, Bool.not_eq_true'] at h
  exact h.1
theorem isC_stay {n c p : Nat} (h : isC n c = true) (hp : p < n) (hb : c.testBit p = true) : par c p = false := by
  simp only [isC, Bool.and_eq_true, List.all_eq_true, List.mem_range] at h
  have := h.2 p hp
  simpa [hb] using this
theorem par_stay {c p : Nat} (hb : c.testBit p = true) : par c (p + 1) = false := by simp [par, hb]
theorem par_move {c p : Nat} (hb : c.testBit p = false) : par c (p + 1) = !(par c p) := by simp [par, hb]
/-- where a pair begins, its second place is there and moves too -/
theorem isC_pair {n c p : Nat} (h : isC n c = true) (hp : p < n) (hb : c.testBit p = false) (h0 : par c p = false) : p + 1 < n ∧ c.testBit (p + 1) = false ∧ par c (p + 1) = true ∧ par c (p + 2) = false := by
  have h1 : par c (p + 1) = true := by rw [par_move hb, h0]; rfl
  have h2 : p + 1 < n := by
    rcases Nat.lt_or_ge (p + 1) n with q | q
    · exact q
    · have e : p + 1 = n := by omega
      rw [e, isC_end h] at h1
      cases h1
  have h3 : c.testBit (p + 1) = false := by
    cases hq : c.testBit (p + 1) with
    | false => rfl
    | true => rw [isC_stay h h2 hq] at h1; cases h1
  exact ⟨h2, h3, h1, by rw [par_move h3, h1]; rfl⟩
theorem bit_nI {c p : Nat} (hc : c < 2 ^ 31) (hp : p < 32) : (sr (nI c) (nI p)) &&& (1 : Int32) = if c.testBit p then 1 else 0 := by
  rw [sr_nI hp hc, show (1 : Int32) = nI 1 from rfl, nI_and, Nat.and_one_is_mod, Nat.testBit_eq_decide_div_mod_eq]
  have h2 : c / 2 ^ p % 2 < 2 := Nat.mod_lt _ (by decide)
  rcases (show c / 2 ^ p % 2 = 0 ∨ c / 2 ^ p % 2 = 1 by omega) with e | e <;> simp [e] <;> rfl
theorem has_nI {c p : Nat} (hc : c < 2 ^ 31) (hp : p < 32) : f_X12_has (nI c) (nI p) = if c.testBit p then 1 else 0 := by
  unfold f_X12_has
  rw [bit_nI hc hp]
  cases c.testBit p <;> rfl
/-- the reference's row of places behind a change, the first p places done -/
def chR (c p : Nat) (f : Nat → Int32) : Nat → Int32 := fun k => if 5 ≤ k ∧ k < 5 + p then f (5 + pm c (k - 5)) else f k
theorem changes_spec {M : Mm} {n c o1 : Nat} (hn : n ≤ 6) (hc : c < 2 ^ 31) (h : isC n c = true) (hb : M 128 16 = nI n) (hl : kln o1 = 23) (ho : o1 ≠ 128) : f_X12_changes 128 o1 (nI c) M = some (stA M o1 (chR c n (M o1))) := by
  unfold f_X12_changes
  have key := Lp_inv (f := b_X12_changes_2 128 o1 (nI c)) (fun s => ∃ p, p ≤ n ∧ par c p = false ∧ s = (nI p, stA M o1 (chR c p (M o1)))) (fun s => n - s.1.toNatClampNeg) (fun t => t = stA M o1 (chR c n (M o1))) ?_ 100000 ((0 : Int32), M) ⟨0, by omega, rfl, ?_⟩ (by show n - _ < _; omega)
  · obtain ⟨t, h1, rfl⟩ := key
    rw [h1]
    rfl
  · rintro s ⟨p, hp, h0, rfl⟩
    have hbp : stA M o1 (chR c p (M o1)) 128 16 = nI n := by rw [stA_ne (fun e => ho e.symm)]; exact hb
    unfold b_X12_changes_2
    simp only [hbp, Lt_eq]
    by_cases hpn : p = n
    · subst hpn
      exact Or.inr ⟨_, by rw [if_pos (nI_le (Nat.le_refl _) (by omega))], rfl⟩
    · have hlt : p < n := by omega
      refine Or.inl ?_
      rw [if_neg (nI_ge hlt (by omega)), has_nI hc (by omega)]
      cases hbt : c.testBit p with
      | true =>
        rw [if_pos rfl, if_neg (by decide), nI_1]
        refine ⟨_, rfl, ⟨p + 1, by omega, par_stay hbt, ?_⟩, ?_⟩
        · congr 1
          congr 1
          funext k
          unfold chR
          by_cases hk : k = 5 + p
          · subst hk
            rw [if_neg (by omega), if_pos (by omega), show 5 + p - 5 = p by omega, pm, if_pos hbt]
          · by_cases hk2 : 5 ≤ k ∧ k < 5 + p
            · rw [if_pos hk2, if_pos (by omega)]
            · rw [if_neg hk2, if_neg (by omega)]
        · show n - (nI (p + 1)).toNatClampNeg < n - (nI p).toNatClampNeg
          rw [nI_clamp (by omega), nI_clamp (by omega)]
          omega
      | false =>
        obtain ⟨q1, q2, q3, q4⟩ := isC_pair h hlt hbt h0
        rw [if_pos (show (if false = true then (1 : Int32) else 0) = 0 from rfl), show (5 : Int32) + nI p = nI (5 + p) from nI_add 5 p, nI_1, show nI p + (2 : Int32) = nI (p + 2) from nI_add p 2]
        rw [Gd_t ((ib_nI (by omega)).mpr (by omega)), Gd_t ((ib_nI (by omega)).mpr (by omega)), Gd_t ((ib_nI (by omega)).mpr (by omega)), Gd_t ((ib_nI (by omega)).mpr (by omega)), ix_nI (by omega), ix_nI (by omega)]
        refine ⟨_, rfl, ⟨p + 2, by omega, q4, ?_⟩, ?_⟩
        · congr 1
          funext o k
          by_cases hoo : o = o1
          · subst hoo
            simp only [st2, stA, upd, chR, if_true]
            by_cases hk1 : k = 5 + p + 1
            · subst hk1
              rw [if_pos rfl, if_neg (by omega), if_pos (by omega), show 5 + p + 1 - 5 = p + 1 by omega, pm, if_neg (by rw [q2]; decide), if_pos q3, show p + 1 - 1 = p by omega]
            · rw [if_neg hk1]
              by_cases hk2 : k = 5 + p
              · subst hk2
                rw [if_pos rfl, if_neg (by omega), if_pos (by omega), show 5 + p - 5 = p by omega, pm, if_neg (by rw [hbt]; decide), if_neg (by rw [h0]; decide), show 5 + (p + 1) = 5 + p + 1 by omega]
              · rw [if_neg hk2]
                by_cases hk3 : 5 ≤ k ∧ k < 5 + p
                · rw [if_pos hk3, if_pos (by omega)]
                · rw [if_neg hk3, if_neg (by omega)]
          · simp only [st2, stA, if_neg hoo]
        · show n - (nI (p + 2)).toNatClampNeg < n - (nI p).toNatClampNeg
          rw [nI_clamp (by omega), nI_clamp (by omega)]
          omega
  · congr 1
    funext o k
    by_cases hoo : o = o1
    · subst hoo
      simp only [stA, chR, if_true]
      rw [if_neg (by omega)]
    · simp only [stA, if_neg hoo]
