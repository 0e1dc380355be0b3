/-! one row rung in the class -/
def CE (e n k : Nat) (E : Nat → Nat) (M : Mm) : Prop := M e 1 = nI (E 0) ∧ M e 2 = nI (E 4) ∧ M e 3 = nI (E 3) ∧ WKr n (fun p => E (5 + p)) (E 1 % k) (E 2) (M (e + 1)) ∧ (∀ r, r < 6 → M (e + 2) r = nI (E (11 + r))) ∧ ∀ r, r < 6 → M (e + 3) r = nI (E (17 + r))
theorem nxc_mod {k x : Nat} (hk : 0 < k) : nxc k (x % k) = (x + 1) % k := by
  unfold nxc
  have h1 := Nat.mod_lt x hk
  have h2 := Nat.div_add_mod x k
  by_cases h : x % k + 1 < k
  · rw [if_pos h]
    rw [show x + 1 = x % k + 1 + k * (x / k) by omega, Nat.add_mul_mod_self_left, Nat.mod_eq_of_lt h]
  · rw [if_neg h]
    have e : x % k + 1 = k := by omega
    rw [show x + 1 = x % k + 1 + k * (x / k) by omega, e, Nat.add_mul_mod_self_left, Nat.mod_self]
theorem lstR_none {E : Nat → Nat} {b : Nat} : ∀ {ns : Nat}, lstR E b ns = none → ∀ r, r < ns → E (11 + r) ≠ b
  | 0, _, r, hr => by omega
  | ns + 1, h, r, hr => by
    unfold lstR at h
    by_cases hx : E (11 + ns) = b
    · rw [if_pos hx] at h; cases h
    · rw [if_neg hx] at h
      by_cases hrn : r = ns
      · subst hrn; exact hx
      · exact lstR_none h r (by omega)
theorem still_spec : ∀ ns, ns < 7 → ∀ x, x < 64 → x < 2 ^ ns → nI ns - f_J6_bitCount_0f7a4 (nI x) = nI (cntI x ns) := by decide +kernel
theorem bits_spec : ∀ x, x < 64 → f_J6_bitCount_0f7a4 (nI x) = nI (6 - cntI x 6) := by decide +kernel
theorem isOut_spec {e r x : Nat} {M : Mm} (h : M e 2 = nI x) (hx : x < 2 ^ 31) (hr : r < 32) : f_X1_isOut e (nI r) M = if x.testBit r then 1 else 0 := by
  unfold f_X1_isOut
  rw [h, bit_nI hx hr]
  cases x.testBit r <;> rfl
theorem ropeOf_spec {e r v : Nat} {M : Mm} (hr : r < 6) (h : M (e + 2) r = nI v) : f_X1_ropeOf e (nI r) M = some (nI v) := by
  unfold f_X1_ropeOf
  rw [if_neg (nI_lt0 (by omega)), show (6 : Int32) = nI 6 from rfl, if_neg (nI_ge hr (by omega)), Gd_t ((ib_nI (by omega)).mpr hr), ix_nI (by omega), h]
theorem suitorOf_spec {e t ns b : Nat} {E : Nat → Nat} {M : Mm} (hns : ns ≤ 6) (ht : M t 2 = nI ns) (hR : ∀ r, r < 6 → M (e + 2) r = nI (E (11 + r))) (hb : b < 2 ^ 31) (hP : ∀ r, r < ns → E (11 + r) < 2 ^ 31) (hJ : ∀ r q, r < ns → q < ns → E (11 + r) = E (11 + q) → r = q) : f_X1_suitorOf e (nI b) t M = some (lI (lstR E b ns)) := by
  unfold f_X1_suitorOf
  have stepN : ∀ i, i < ns → E (11 + i) ≠ b → b_X1_suitorOf_2 e (nI b) t M (nI i) = some (.inl (nI (i + 1))) := by
    intro i hi hne
    unfold b_X1_suitorOf_2
    rw [ht, if_neg (nI_ge hi (by omega)), ropeOf_spec (by omega) (hR i (by omega)), Bd_some, if_neg (fun e => hne (nI_inj (hP i hi) hb e)), Lt_eq, nI_1]
  cases hl : lstR E b ns with
  | none =>
    refine BdS_LpR (fun i => nI i) ns () rfl (fun i hi => stepN i hi (lstR_none hl i hi)) ?_ (by omega)
    unfold b_X1_suitorOf_2
    rw [ht, if_pos (nI_le (Nat.le_refl _) (by omega))]
  | some r =>
    obtain ⟨h1, h2⟩ := lstR_lt hl
    refine BdS_LpL (fun i => nI i) r (nI r) rfl (fun i hi => stepN i (by omega) (fun e => ?_)) ?_ (by omega)
    · have := hJ i r (by omega) h1 (e.trans h2.symm)
      omega
    · unfold b_X1_suitorOf_2
      rw [ht, if_neg (nI_ge h1 (by omega)), ropeOf_spec (by omega) (hR r (by omega)), Bd_some, h2, if_pos rfl]
theorem or_set {x r : Nat} (h : x.testBit r = true) : x ||| 2 ^ r = x := by
  apply Nat.eq_of_testBit_eq
  intro i
  rw [Nat.testBit_or, Nat.testBit_two_pow]
  by_cases hi : r = i
  · subst hi; simp [h]
  · simp [hi]
theorem hasBell_spec {t n b : Nat} {M : Mm} (h : M t 0 = nI n) (hb : b < n) (hn : n < 100) : f_X9_hasBell t (nI b) M = 1 := by
  unfold f_X9_hasBell
  rw [if_neg (nI_lt0 (by omega)), h, if_neg (nI_ge hb (by omega))]
theorem hasSuitor_spec {t n b : Nat} {M : Mm} (h : M t 2 = nI n) (hb : b < n) (hn : n < 100) : f_X9_hasSuitor t (nI b) M = 1 := by
  unfold f_X9_hasSuitor
  rw [if_neg (nI_lt0 (by omega)), h, if_neg (nI_ge hb (by omega))]
theorem max0c {a b : Nat} (ha : a < 2 ^ 30) (hb : b < 2 ^ 30) : (if (0 : Int32) < nI a - nI b then nI a - nI b else (0 : Int32)) = nI (a - b) := by
  have h := max0 ha hb
  by_cases hx : nI a - nI b ≤ 0
  · rw [if_pos hx] at h
    rw [if_neg (fun q => absurd hx (by
      have h1 := Int32.lt_iff_toInt_lt.mp q
      intro h2
      have h3 := Int32.le_iff_toInt_le.mp h2
      omega)), h]
  · rw [if_neg hx] at h
    rw [if_pos (by
      rw [Int32.lt_iff_toInt_lt]
      have h1 : ¬ (nI a - nI b).toInt ≤ (0 : Int32).toInt := fun q => hx (Int32.le_iff_toInt_le.mpr q)
      omega), h]
theorem excess_spec {t n k ns C r b : Nat} {Me W S : Nat → Nat} {M : Mm} (hT : TW t n k ns C Me W S M) (hV : TV n k ns C Me W S) (hr : r < ns) (hb : b < n) : f_X9_excess t (nI r) (nI b) M = some (nI (W b - S r)) := by
  obtain ⟨ht, h0, h1, h2, -, -, h6, h7⟩ := hT
  obtain ⟨hbd, -, -, -, hW, hS⟩ := hV
  have hw := hW b hb
  have hs := hS r hr
  unfold f_X9_excess f_X9_weightOf f_X9_strengthOf
  rw [hasBell_spec h0 hb (by omega), hasSuitor_spec h2 hr (by omega), if_neg (by decide), if_neg (by decide), Gd_t ((ib_nI (by omega)).mpr (by omega)), Gd_t ((ib_nI (by omega)).mpr (by omega)), ix_nI (by omega), ix_nI (by omega), h6 b hb, h7 r hr, Bd_some, Bd_some, max0c (by omega) (by omega)]
