/-! the class's change: masks over a packed row -/
theorem and8 {a b A B : Nat} (ha : a < 8) (hb : b < 8) : (a + 8 * A) &&& (b + 8 * B) = (a &&& b) + 8 * (A &&& B) := by
  have h1 : ((a + 8 * A) &&& (b + 8 * B)) % 2 ^ 3 = a &&& b := by
    rw [Nat.and_mod_two_pow]
    congr 1 <;> omega
  have h2 : ((a + 8 * A) &&& (b + 8 * B)) / 2 ^ 3 = A &&& B := by
    rw [Nat.and_div_two_pow]
    congr 1 <;> omega
  have h3 := Nat.div_add_mod ((a + 8 * A) &&& (b + 8 * B)) (2 ^ 3)
  rw [h1, h2] at h3
  omega
theorem or8 {a b A B : Nat} (ha : a < 8) (hb : b < 8) : (a + 8 * A) ||| (b + 8 * B) = (a ||| b) + 8 * (A ||| B) := by
  have h1 : ((a + 8 * A) ||| (b + 8 * B)) % 2 ^ 3 = a ||| b := by
    rw [Nat.or_mod_two_pow]
    congr 1 <;> omega
  have h2 : ((a + 8 * A) ||| (b + 8 * B)) / 2 ^ 3 = A ||| B := by
    rw [Nat.or_div_two_pow]
    congr 1 <;> omega
  have h3 := Nat.div_add_mod ((a + 8 * A) ||| (b + 8 * B)) (2 ^ 3)
  rw [h1, h2] at h3
  omega
theorem enc_and : ∀ (n : Nat) (w v : Nat → Nat), (∀ p, p < n → w p < 8) → (∀ p, p < n → v p < 8) → enc n w &&& enc n v = enc n (fun p => w p &&& v p)
  | 0, _, _, _, _ => by simp [enc]
  | n + 1, w, v, h1, h2 => by
    rw [enc, enc, enc, and8 (h1 0 (by omega)) (h2 0 (by omega)), enc_and n _ _ (fun p hp => h1 (p + 1) (by omega)) (fun p hp => h2 (p + 1) (by omega))]
theorem enc_or : ∀ (n : Nat) (w v : Nat → Nat), (∀ p, p < n → w p < 8) → (∀ p, p < n → v p < 8) → enc n w ||| enc n v = enc n (fun p => w p ||| v p)
  | 0, _, _, _, _ => by simp [enc]
  | n + 1, w, v, h1, h2 => by
    rw [enc, enc, enc, or8 (h1 0 (by omega)) (h2 0 (by omega)), enc_or n _ _ (fun p hp => h1 (p + 1) (by omega)) (fun p hp => h2 (p + 1) (by omega))]
theorem enc_snoc : ∀ (n : Nat) (w : Nat → Nat), enc (n + 1) w = enc n w + w n * 8 ^ n
  | 0, w => by simp [enc]
  | n + 1, w => by
    rw [enc, enc_snoc n (fun p => w (p + 1)), enc, Nat.pow_succ]
    show w 0 + 8 * (enc n (fun p => w (p + 1)) + w (n + 1) * 8 ^ n) = _
    rw [Nat.mul_add, Nat.add_assoc]
    congr 2
    rw [Nat.mul_left_comm, Nat.mul_comm 8]
theorem enc_shl {n : Nat} {v : Nat → Nat} (h : ∀ m, n = m + 1 → v m = 0) : enc n v * 8 = enc n (fun p => if p = 0 then 0 else v (p - 1)) := by
  cases n with
  | zero => rfl
  | succ m =>
    rw [enc_snoc, h m rfl, enc]
    have e : enc m (fun p => if p + 1 = 0 then 0 else v (p + 1 - 1)) = enc m v := enc_congr _ _ _ (fun p _ => by simp)
    rw [e]
    simp
    omega
theorem enc_shr {n : Nat} {v : Nat → Nat} (h : ∀ p, p < n → v p < 8) : enc n v / 8 = enc n (fun p => if p + 1 < n then v (p + 1) else 0) := by
  cases n with
  | zero => simp [enc]
  | succ m =>
    have h0 := h 0 (by omega)
    rw [enc_snoc m (fun p => if p + 1 < m + 1 then v (p + 1) else 0), if_neg (by omega)]
    have e : enc m (fun p => if p + 1 < m + 1 then v (p + 1) else 0) = enc m (fun p => v (p + 1)) := enc_congr _ _ _ (fun p hp => by rw [if_pos (by omega)])
    rw [e, enc]
    omega
def fsW (c p : Nat) : Nat := if c.testBit p then 0 else if par c p then 0 else 7
def stW (c p : Nat) : Nat := if c.testBit p then 7 else 0
theorem fsW_lt (c p : Nat) : fsW c p < 8 := by unfold fsW; split; omega; split <;> omega
theorem stW_lt (c p : Nat) : stW c p < 8 := by unfold stW; split <;> omega
theorem and7 {a : Nat} (h : a < 8) : a &&& 7 = a := by
  rw [show (7 : Nat) = 2 ^ 3 - 1 from rfl, Nat.and_two_pow_sub_one_eq_mod]
  exact Nat.mod_eq_of_lt h
theorem next_nat {n c : Nat} {w : Nat → Nat} (h : isC n c = true) (hw : ∀ p, p < n → w p < 8) : ((enc n w &&& enc n (stW c)) ||| (enc n w &&& enc n (fsW c)) * 8) ||| (enc n w / 8 &&& enc n (fsW c)) = enc n (fun p => w (pm c p)) := by
  have hf := fun p (_ : p < n) => fsW_lt c p
  have hs := fun p (_ : p < n) => stW_lt c p
  have hla : ∀ a b : Nat, b < 8 → a &&& b < 8 := fun a b hb => Nat.lt_of_le_of_lt Nat.and_le_right hb
  have htop : ∀ m, n = m + 1 → (w m &&& fsW c m) = 0 := by
    intro m hm
    have e : fsW c m = 0 := by
      unfold fsW
      cases hb : c.testBit m with
      | true => rfl
      | false =>
        cases hp : par c m with
        | true => rfl
        | false =>
          have := (isC_pair h (by omega) hb hp).1
          omega
    rw [e, Nat.and_zero]
  rw [enc_and n w _ hw hs, enc_and n w _ hw hf, enc_shl htop, enc_shr hw]
  rw [enc_or n _ _ (fun p hp => hla _ _ (hs p hp)) (fun p hp => by split; omega; exact hla _ _ (fsW_lt c _))]
  rw [enc_and n _ _ (fun p hp => by split; exact hw _ (by assumption); omega) hf]
  rw [enc_or n _ _ (fun p hp => by
    have := Nat.or_lt_two_pow (n := 3) (hla (w p) (stW c p) (hs p hp)) (show (if p = 0 then 0 else w (p - 1) &&& fsW c (p - 1)) < 2 ^ 3 by split; omega; exact hla _ _ (fsW_lt c _))
    exact this) (fun p hp => hla _ _ (hf p hp))]
  refine enc_congr _ _ _ (fun p hp => ?_)
  have h0 : par c 0 = false := rfl
  cases hb : c.testBit p with
  | true =>
    have h1 := isC_stay h hp hb
    have e1 : (if p = 0 then 0 else w (p - 1) &&& fsW c (p - 1)) = 0 := by
      split
      · rfl
      · have e : fsW c (p - 1) = 0 := by
          unfold fsW
          cases hb2 : c.testBit (p - 1) with
          | true => rfl
          | false =>
            have h2 := par_move hb2
            rw [show p - 1 + 1 = p by omega, h1] at h2
            cases hp2 : par c (p - 1) with
            | true => rfl
            | false => rw [hp2] at h2; cases h2
        rw [e, Nat.and_zero]
    rw [e1]
    simp only [stW, fsW, pm, hb, if_true, Nat.and_zero, Nat.or_zero]
    exact and7 (hw p hp)
  | false =>
    cases hp2 : par c p with
    | false =>
      obtain ⟨q1, q2, q3, q4⟩ := isC_pair h hp hb hp2
      have e1 : (if p = 0 then 0 else w (p - 1) &&& fsW c (p - 1)) = 0 := by
        split
        · rfl
        · have e : fsW c (p - 1) = 0 := by
            unfold fsW
            cases hb2 : c.testBit (p - 1) with
            | true => rfl
            | false =>
              have h2 := par_move hb2
              rw [show p - 1 + 1 = p by omega, hp2] at h2
              cases hp3 : par c (p - 1) with
              | true => rfl
              | false => rw [hp3] at h2; cases h2
          rw [e, Nat.and_zero]
      rw [e1, if_pos q1]
      simp only [stW, fsW, pm, hb, hp2, Bool.false_eq_true, if_false, Nat.and_zero, Nat.zero_or]
      exact and7 (hw _ q1)
    | true =>
      have hp0 : p ≠ 0 := by intro e; subst e; cases hp2
      have e1 : fsW c (p - 1) = 7 := by
        cases hb2 : c.testBit (p - 1) with
        | true =>
          have h2 := par_stay hb2
          rw [show p - 1 + 1 = p by omega, hp2] at h2
          cases h2
        | false =>
          have h2 := par_move hb2
          rw [show p - 1 + 1 = p by omega, hp2] at h2
          cases hp3 : par c (p - 1) with
          | true => rw [hp3] at h2; cases h2
          | false => simp [fsW, hb2, hp3]
      rw [if_neg hp0, e1]
      simp only [stW, fsW, pm, hb, hp2, Bool.false_eq_true, if_false, if_true, Nat.and_zero, Nat.zero_or, Nat.or_zero]
      exact and7 (hw _ (by omega))
theorem firstsOf_spec : ∀ n, n < 7 → ∀ c, c < 64 → c < 2 ^ n → f_X0_firstsOf (nI c) (nI n) = some (if isC n c then nI (enc n (fsW c)) else -1) := by decide +kernel
theorem stays_spec : ∀ n, n < 7 → ∀ c, c < 64 → c < 2 ^ n → isC n c = true → (((sl (1 : Int32) ((3 : Int32) * nI n)) - (1 : Int32)) &&& ((nI (enc n (fsW c)) ||| (sl (nI (enc n (fsW c))) (3 : Int32))) ^^^ (-1 : Int32))) = nI (enc n (stW c)) := by decide +kernel
theorem isChange_spec : ∀ n, n < 7 → ∀ c, c < 64 → c < 2 ^ n → f_X12_isChange (nI c) (nI n) = some (if isC n c then 1 else 0) := by decide +kernel
