/-! figures that are told: which tell a row -/
def dg (a i : Nat) : Nat := a / 10 ^ i % 10
theorem dg_s (a i : Nat) : dg (a / 10) i = dg a (i + 1) := by
  unfold dg
  rw [Nat.div_div_eq_div_mul, Nat.pow_succ, Nat.mul_comm]
theorem figs_dg : ∀ (n a : Nat), a < 10 ^ n → (∀ i, i < n → 1 ≤ dg a i) → figs n (fun p => dg a (n - 1 - p) - 1) = a
  | 0, a, h, _ => by
    have : a = 0 := by simpa using h
    rw [this]; rfl
  | n + 1, a, h, hd => by
    have hlt : a / 10 < 10 ^ n := by
      rw [Nat.pow_succ] at h
      omega
    have ih := figs_dg n (a / 10) hlt (fun i hi => by rw [dg_s]; exact hd (i + 1) (by omega))
    show figs n (fun p => dg a (n + 1 - 1 - p) - 1) * 10 + (dg a (n + 1 - 1 - n) - 1) + 1 = a
    rw [figs_congr n (fun p => dg a (n + 1 - 1 - p) - 1) (fun p => dg (a / 10) (n - 1 - p) - 1) (fun p hp => by
      show dg a (n + 1 - 1 - p) - 1 = dg (a / 10) (n - 1 - p) - 1
      rw [dg_s, show n - 1 - p + 1 = n + 1 - 1 - p by omega]), ih, show n + 1 - 1 - n = 0 by omega]
    have h0 := hd 0 (by omega)
    unfold dg at h0 ⊢
    simp only [Nat.pow_zero, Nat.div_one] at h0 ⊢
    omega
def stF (n a : Nat) : Nat → Nat
  | 0 => 0
  | i + 1 => stF n a i ||| (if 1 ≤ dg a i ∧ dg a i ≤ n then 2 ^ (dg a i - 1) else 0)
theorem stF_bit {n a b : Nat} : ∀ i, (stF n a i).testBit b = true ↔ ∃ j, j < i ∧ dg a j ≤ n ∧ dg a j = b + 1
  | 0 => by
    constructor
    · intro h
      exact absurd h (by show ¬ (0 : Nat).testBit b = true; rw [Nat.zero_testBit]; simp)
    · rintro ⟨j, hj, -⟩
      omega
  | i + 1 => by
    have ih := stF_bit (n := n) (a := a) (b := b) i
    show (stF n a i ||| (if 1 ≤ dg a i ∧ dg a i ≤ n then 2 ^ (dg a i - 1) else 0)).testBit b = true ↔ _
    rw [Nat.testBit_or, Bool.or_eq_true, ih]
    constructor
    · rintro (⟨j, h1, h2, h3⟩ | h)
      · exact ⟨j, by omega, h2, h3⟩
      · by_cases hc : 1 ≤ dg a i ∧ dg a i ≤ n
        · rw [if_pos hc, Nat.testBit_two_pow] at h
          have := of_decide_eq_true h
          exact ⟨i, by omega, hc.2, by omega⟩
        · rw [if_neg hc, Nat.zero_testBit] at h
          exact absurd h (by simp)
    · rintro ⟨j, h1, h2, h3⟩
      by_cases hj : j = i
      · subst hj
        right
        rw [if_pos (by omega), Nat.testBit_two_pow]
        exact decide_eq_true (by omega)
      · exact Or.inl ⟨j, by omega, h2, h3⟩
theorem stF_lt {n a : Nat} (hn : n ≤ 6) : ∀ i, stF n a i < 2 ^ 6
  | 0 => by show 0 < 2 ^ 6; omega
  | i + 1 => by
    refine Nat.or_lt_two_pow (stF_lt hn i) ?_
    split
    · exact Nat.pow_lt_pow_right (by omega) (by omega)
    · omega
def pIx (n i : Nat) : Int32 := if i < n then nI (n - 1 - i) else -1
theorem nI_m (m : Nat) : nI (m + 1) + (-1 : Int32) = nI m := by
  have h : nI (m + 1) - (1 : Int32) = nI m := by
    have := pk_sub (a := m + 1) (b := 1) (by omega)
    rw [show m + 1 - 1 = m by omega] at this
    exact this
  rw [← h, Int32.sub_eq_add_neg]
theorem pIx_s {n i : Nat} (h : i < n) : pIx n i + (-1 : Int32) = pIx n (i + 1) := by
  unfold pIx
  rw [if_pos h]
  by_cases h2 : i + 1 < n
  · rw [if_pos h2, show n - 1 - i = (n - 1 - (i + 1)) + 1 by omega, nI_m]
  · rw [if_neg h2, show n - 1 - i = 0 by omega]; rfl
theorem pIx_1 {n i : Nat} (h : i ≤ n) (hn : n ≤ 6) : (pIx n i + 1).toNatClampNeg = n - i := by
  unfold pIx
  by_cases h2 : i < n
  · rw [if_pos h2, nI_1, nI_clamp (by omega)]; omega
  · rw [if_neg h2, show n - i = 0 by omega]; decide
theorem pIx_0 {n : Nat} (hn : 0 < n) : nI n - (1 : Int32) = pIx n 0 := by
  unfold pIx
  rw [if_pos hn]
  exact pk_sub (b := 1) (by omega)
/-- how far the class gets: digit i is a bell that has not been met -/
def gdD (n a i : Nat) : Prop := 1 ≤ dg a i ∧ dg a i ≤ n ∧ (stF n a i).testBit (dg a i - 1) = false
def rwF (n a i : Nat) : Nat → Nat := fun p => if n - 1 - p < i then dg a (n - 1 - p) - 1 else 0
theorem dg_lt (a i : Nat) : dg a i < 10 := Nat.mod_lt _ (by omega)
theorem rwF_s {n a i : Nat} (hn : n ≤ 6) (hi : i < n) (h8 : ∀ j, j < i + 1 → dg a j ≤ n) : enc n (rwF n a i) ||| (dg a i - 1) * 8 ^ (n - 1 - i) = enc n (rwF n a (i + 1)) := by
  have hd := h8 i (by omega)
  rw [← enc_single n (n - 1 - i) (dg a i - 1) (by omega), enc_or n _ _ (fun p hp => ?_) (fun p hp => ?_)]
  · refine enc_congr n _ _ (fun p hp => ?_)
    show rwF n a i p ||| (if p = n - 1 - i then dg a i - 1 else 0) = rwF n a (i + 1) p
    unfold rwF
    by_cases hp2 : p = n - 1 - i
    · subst hp2
      rw [if_neg (by omega), if_pos rfl, if_pos (by omega), show n - 1 - (n - 1 - i) = i by omega, Nat.zero_or]
    · rw [if_neg hp2, Nat.or_zero]
      by_cases h3 : n - 1 - p < i
      · rw [if_pos h3, if_pos (by omega)]
      · rw [if_neg h3, if_neg (by omega)]
  · show rwF n a i p < 8
    unfold rwF
    split
    · have := h8 (n - 1 - p) (by omega)
      omega
    · omega
  · show (if p = n - 1 - i then dg a i - 1 else 0) < 8
    split <;> omega
theorem ff_step {n a i : Nat} (hn : n ≤ 6) (ha : a < 2 ^ 31) (hi : i < n) (hg : ∀ j, j < i → gdD n a j) (h : gdD n a i) : b_X5_fromFigures_12 (nI n) (nI (enc n (rwF n a i)), nI (stF n a i), nI (a / 10 ^ i), pIx n i) = some (.inl (nI (enc n (rwF n a (i + 1))), nI (stF n a (i + 1)), nI (a / 10 ^ (i + 1)), pIx n (i + 1))) := by
  obtain ⟨h1, h2, h3⟩ := h
  have hs := stF_lt (a := a) hn i
  have hai : a / 10 ^ i < 2 ^ 31 := Nat.lt_of_le_of_lt (Nat.div_le_self _ _) ha
  unfold b_X5_fromFigures_12
  simp only [Lt_eq]
  rw [show rm (nI (a / 10 ^ i)) (10 : Int32) = nI (dg a i) from rm_nI (b := 10) hai (by omega) (by omega), show nI (dg a i) - (1 : Int32) = nI (dg a i - 1) from pk_sub (b := 1) h1, pIx_s hi, show nI (a / 10 ^ i) / (10 : Int32) = nI (a / 10 ^ i / 10) from pk_div (d := 10) hai (by omega) (by omega), Nat.div_div_eq_div_mul, ← Nat.pow_succ]
  rw [show pIx n i = nI (n - 1 - i) by unfold pIx; rw [if_pos hi]]
  rw [if_neg (nI_lt0 (by omega)), if_neg (nI_lt0 (by omega)), if_neg (nI_ge (show dg a i - 1 < n by omega) (by omega)), bit_nI (by omega) (by omega), if_neg (show ¬ (stF n a i).testBit (dg a i - 1) = true by rw [h3]; simp), if_pos rfl]
  rw [show sl (1 : Int32) (nI (dg a i - 1)) = nI (2 ^ (dg a i - 1)) by
    have := sl_nI (a := 1) (k := dg a i - 1) (by omega) (by rw [Nat.one_mul]; exact Nat.pow_lt_pow_right (by omega) (by omega))
    rw [Nat.one_mul] at this
    exact this, nI_or, show (3 : Int32) * nI (n - 1 - i) = nI (3 * (n - 1 - i)) from pk_mul 3 _]
  have hb8 : 8 ^ (n - 1 - i) ≤ 8 ^ 5 := Nat.pow_le_pow_right (by omega) (by omega)
  have hbb : (dg a i - 1) * 8 ^ (n - 1 - i) ≤ 5 * 8 ^ 5 := Nat.mul_le_mul (by omega) hb8
  have e8 : 2 ^ (3 * (n - 1 - i)) = 8 ^ (n - 1 - i) := by rw [Nat.pow_mul]
  rw [sl_nI (by omega) (by rw [e8]; omega), e8, nI_or, rwF_s hn hi (fun j hj => ?_)]
  · show _ = some (Sum.inl (_, nI (stF n a i ||| (if 1 ≤ dg a i ∧ dg a i ≤ n then 2 ^ (dg a i - 1) else 0)), _, _))
    rw [if_pos ⟨h1, h2⟩]
  · by_cases e : j = i
    · rw [e]; exact h2
    · exact (hg j (by omega)).2.1
theorem ff_stop {n a i : Nat} (hn : n ≤ 6) (ha : a < 2 ^ 31) (hi : i < n) (h : ¬ gdD n a i) : b_X5_fromFigures_12 (nI n) (nI (enc n (rwF n a i)), nI (stF n a i), nI (a / 10 ^ i), pIx n i) = some (.inr (.inl (-1 : Int32))) := by
  have hs := stF_lt (a := a) hn i
  have hai : a / 10 ^ i < 2 ^ 31 := Nat.lt_of_le_of_lt (Nat.div_le_self _ _) ha
  have hd := dg_lt a i
  unfold b_X5_fromFigures_12
  simp only [Lt_eq]
  rw [show rm (nI (a / 10 ^ i)) (10 : Int32) = nI (dg a i) from rm_nI (b := 10) hai (by omega) (by omega), show pIx n i = nI (n - 1 - i) by unfold pIx; rw [if_pos hi], if_neg (nI_lt0 (by omega))]
  by_cases h1 : 1 ≤ dg a i
  · rw [show nI (dg a i) - (1 : Int32) = nI (dg a i - 1) from pk_sub (b := 1) h1, if_neg (nI_lt0 (by omega))]
    by_cases h2 : dg a i ≤ n
    · rw [if_neg (nI_ge (show dg a i - 1 < n by omega) (by omega)), bit_nI (by omega) (by omega)]
      have h3 : (stF n a i).testBit (dg a i - 1) = true := by
        by_cases e : (stF n a i).testBit (dg a i - 1) = true
        · exact e
        · exact absurd ⟨h1, h2, by simpa using e⟩ h
      rw [if_pos h3, if_neg one_ne]
    · rw [if_pos (nI_le (show n ≤ dg a i - 1 by omega) (by omega))]
  · rw [show dg a i = 0 by omega, if_pos (show nI 0 - (1 : Int32) < 0 by decide)]
theorem rm10neg {x : Int32} (h : x < 0) : rm x (10 : Int32) - (1 : Int32) < 0 := by
  have h1 := Int32.lt_iff_toInt_lt.mp h
  have h2 := Int32.le_toInt x
  have e0 : (0 : Int32).toInt = 0 := by decide
  have e10 : (10 : Int32).toInt = 10 := by decide
  have e1 : (1 : Int32).toInt = 1 := by decide
  unfold rm
  rw [Int32.lt_iff_toInt_lt, Int32.toInt_sub, Int32.toInt_sub, Int32.toInt_mul, Int32.toInt_div_of_ne_right _ _ (by decide), e10, e1, e0]
  rw [e0] at h1
  generalize x.toInt = a at *
  obtain ⟨b, rfl⟩ : ∃ b : Int, a = -b := ⟨-a, by omega⟩
  rw [Int.neg_tdiv, Int.tdiv_eq_ediv_of_nonneg (by omega)]
  rw [Int.bmod_eq_of_le_mul_two (x := -(b / 10) * 10) (by omega) (by omega), Int.bmod_eq_of_le_mul_two (x := -b - -(b / 10) * 10) (by omega) (by omega), Int.bmod_eq_of_le_mul_two (by omega) (by omega)]
  omega
