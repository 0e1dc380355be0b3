/-! listen -/
def smF (f : Nat → Nat) : Nat → Nat
  | 0 => 0
  | i + 1 => smF f i + f i
def mxF (f : Nat → Nat) : Nat → Nat
  | 0 => 0
  | i + 1 => if mxF f i < f i then f i else mxF f i
theorem smF_congr {f g : Nat → Nat} : ∀ n, (∀ i, i < n → f i = g i) → smF f n = smF g n
  | 0, _ => rfl
  | n + 1, h => by
    show smF f n + f n = smF g n + g n
    rw [smF_congr n (fun i hi => h i (by omega)), h n (by omega)]
theorem mxF_congr {f g : Nat → Nat} : ∀ n, (∀ i, i < n → f i = g i) → mxF f n = mxF g n
  | 0, _ => rfl
  | n + 1, h => by
    show (if mxF f n < f n then f n else mxF f n) = (if mxF g n < g n then g n else mxF g n)
    rw [mxF_congr n (fun i hi => h i (by omega)), h n (by omega)]
theorem mxF_ge {f : Nat → Nat} : ∀ n i, i < n → f i ≤ mxF f n
  | 0, _, h => by omega
  | n + 1, i, h => by
    show f i ≤ (if mxF f n < f n then f n else mxF f n)
    by_cases e : i = n
    · subst e
      split <;> omega
    · have := mxF_ge (f := f) n i (by omega)
      split <;> omega
theorem smF_ge {f : Nat → Nat} : ∀ n i, i < n → f i ≤ smF f n
  | 0, _, h => by omega
  | n + 1, i, h => by
    show f i ≤ smF f n + f n
    by_cases e : i = n
    · subst e; omega
    · have := smF_ge (f := f) n i (by omega)
      omega
theorem smF_le {f : Nat → Nat} (h : ∀ i, f i ≤ 1) : ∀ n, smF f n ≤ n
  | 0 => Nat.le_refl _
  | n + 1 => by
    show smF f n + f n ≤ n + 1
    have := smF_le h n
    have := h n
    omega
theorem mxF_le {f : Nat → Nat} {c : Nat} (h : ∀ i, f i ≤ c) : ∀ n, mxF f n ≤ c
  | 0 => by show 0 ≤ c; omega
  | n + 1 => by
    show (if mxF f n < f n then f n else mxF f n) ≤ c
    have := mxF_le h n
    have := h n
    split <;> omega
theorem smF_zero : ∀ n, smF (fun _ => 0) n = 0
  | 0 => rfl
  | n + 1 => by
    show smF (fun _ => 0) n + 0 = 0
    rw [smF_zero n]
/-- the greatest part that would be heard alike -/
def gpA (n x : Nat) (hv : Nat → Nat) : Nat := mxF (fun a => if x.testBit a = true then smF (fun b => if x.testBit b = true then (if hv b = hv a then 1 else 0) else 0) n else 0) n
theorem gpA_pos {n x a : Nat} {hv : Nat → Nat} (ha : a < n) (hb : x.testBit a = true) : 1 ≤ gpA n x hv := by
  have h1 := mxF_ge (f := fun a => if x.testBit a = true then smF (fun b => if x.testBit b = true then (if hv b = hv a then 1 else 0) else 0) n else 0) n a ha
  have h2 := smF_ge (f := fun b => if x.testBit b = true then (if hv b = hv a then 1 else 0) else 0) n a ha
  simp only [hb, if_true] at h1 h2
  exact Nat.le_trans h2 h1
theorem gpA_le {n x : Nat} {hv : Nat → Nat} : gpA n x hv ≤ n := by
  unfold gpA
  apply mxF_le
  intro i
  split
  · apply smF_le
    intro j
    split
    · split <;> omega
    · omega
  · omega
theorem mbl_1 {x b : Nat} {M : Mm} (hx : x < 64) (hb : b < 6) (h1 : M 117 1 = nI x) (h : x.testBit b = true) : f_X2_mayBeLate 117 (nI b) M = 1 := by
  unfold f_X2_mayBeLate
  rw [if_neg (show ¬ ((sr (M 117 1) (nI b)) &&& (1 : Int32)) = 0 by rw [h1, bit_nI (by omega) (by omega), if_pos h]; exact one_ne)]
theorem mbl_0 {x b : Nat} {M : Mm} (hx : x < 64) (hb : b < 6) (h1 : M 117 1 = nI x) (h : ¬ x.testBit b = true) : f_X2_mayBeLate 117 (nI b) M = 0 := by
  unfold f_X2_mayBeLate
  rw [if_pos (show ((sr (M 117 1) (nI b)) &&& (1 : Int32)) = 0 by rw [h1, bit_nI (by omega) (by omega), if_neg h])]
theorem heardAl_spec {t n x a : Nat} {w : Nat → Nat} {M : Mm} (t0 : M t 0 = nI n) (hn : n ≤ 6) (hx : x < 64) (h1 : M 117 1 = nI x) (hp : prm n w) (ha : a < n) : f_X2_heardAlike 117 (nI (enc n w)) (nI a) t M = some (nI (smF (fun b => if x.testBit b = true then (if enc n (ltR n b w) = enc n (ltR n a w) then 1 else 0) else 0) n)) := by
  unfold f_X2_heardAlike
  rw [t0, withLate_spec hn hp ha, Bd_some]
  have ea := enc_b hn (ltR_lt hn hp ha)
  have hs : ∀ q, q < n → b_X2_heardAlike_17 117 (nI (enc n w)) t M (nI (enc n (ltR n a w))) (nI (smF (fun b => if x.testBit b = true then (if enc n (ltR n b w) = enc n (ltR n a w) then 1 else 0) else 0) q), nI q) = some (.inl (nI (smF (fun b => if x.testBit b = true then (if enc n (ltR n b w) = enc n (ltR n a w) then 1 else 0) else 0) (q + 1)), nI (q + 1))) := fun q hq => by
    have eqq := enc_b hn (ltR_lt hn hp hq)
    unfold b_X2_heardAlike_17
    simp only [Lt_eq]
    rw [if_neg (show ¬ M t 0 ≤ nI q by rw [t0]; exact nI_ge hq (by omega)), nI_1]
    show _ = some (Sum.inl (nI (smF _ q + if x.testBit q = true then (if enc n (ltR n q w) = enc n (ltR n a w) then 1 else 0) else 0), _))
    by_cases e1 : x.testBit q = true
    · rw [mbl_1 hx (by omega) h1 e1, if_neg one_ne, if_pos e1, t0, withLate_spec hn hp hq, Bd_some]
      by_cases e2 : enc n (ltR n q w) = enc n (ltR n a w)
      · rw [if_pos (show nI (enc n (ltR n q w)) = nI (enc n (ltR n a w)) by rw [e2]), if_pos e2, Bd_some, nI_1]
      · rw [if_neg (show ¬ nI (enc n (ltR n q w)) = nI (enc n (ltR n a w)) from fun z => e2 (nI_inj (by omega) (by omega) z)), if_neg e2, Bd_some, Nat.add_zero, nI_1]
    · rw [mbl_0 hx (by omega) h1 e1, if_pos rfl, if_neg e1, Bd_some, Nat.add_zero, nI_1]
  have he : b_X2_heardAlike_17 117 (nI (enc n w)) t M (nI (enc n (ltR n a w))) (nI (smF (fun b => if x.testBit b = true then (if enc n (ltR n b w) = enc n (ltR n a w) then 1 else 0) else 0) n), nI n) = some (.inr (nI (smF (fun b => if x.testBit b = true then (if enc n (ltR n b w) = enc n (ltR n a w) then 1 else 0) else 0) n))) := by
    unfold b_X2_heardAlike_17
    rw [if_pos (show M t 0 ≤ nI n by rw [t0]; exact nI_le (Nat.le_refl _) (by omega))]
  rw [Lp_from (s0 := ((0 : Int32), (0 : Int32))) (fun q => (nI (smF (fun b => if x.testBit b = true then (if enc n (ltR n b w) = enc n (ltR n a w) then 1 else 0) else 0) q), nI q)) n _ rfl hs he (by omega), Bd_some]
theorem great_spec {t n x : Nat} {w : Nat → Nat} {M : Mm} (t0 : M t 0 = nI n) (hn : n ≤ 6) (hx : x < 64) (h1 : M 117 1 = nI x) (hp : prm n w) : f_X2_greatestPartAlike 117 (nI (enc n w)) t M = some (nI (gpA n x (fun b => enc n (ltR n b w)))) := by
  unfold f_X2_greatestPartAlike
  have hal : ∀ a, a < n → f_X2_heardAlike 117 (nI (enc n w)) (nI a) t M = some (nI (smF (fun b => if x.testBit b = true then (if enc n (ltR n b w) = enc n (ltR n a w) then 1 else 0) else 0) n)) := fun a ha => heardAl_spec t0 hn hx h1 hp ha
  have hg : gpA n x (fun b => enc n (ltR n b w)) = mxF (fun a => if x.testBit a = true then smF (fun b => if x.testBit b = true then (if enc n (ltR n b w) = enc n (ltR n a w) then 1 else 0) else 0) n else 0) n := rfl
  rw [hg]
  generalize hf : (fun a => if x.testBit a = true then smF (fun b => if x.testBit b = true then (if enc n (ltR n b w) = enc n (ltR n a w) then 1 else 0) else 0) n else 0) = f
  have hfa : ∀ a, (if x.testBit a = true then smF (fun b => if x.testBit b = true then (if enc n (ltR n b w) = enc n (ltR n a w) then 1 else 0) else 0) n else 0) = f a := fun a => by rw [← hf]
  have hfle : ∀ a, f a ≤ n := fun a => by
    rw [← hfa a]
    split
    · exact smF_le (fun j => by split; split <;> omega; omega) n
    · omega
  have hmx : ∀ i, mxF f i ≤ n := fun i => mxF_le hfle i
  have hs : ∀ a, a < n → b_X2_greatestPartAlike_5 117 (nI (enc n w)) t M (nI (mxF f a), nI a) = some (.inl (nI (mxF f (a + 1)), nI (a + 1))) := fun a ha => by
    have b1 := hfle a
    have b2 := hmx a
    have b3 := hfa a
    unfold b_X2_greatestPartAlike_5
    simp only [Lt_eq]
    rw [if_neg (show ¬ M t 0 ≤ nI a by rw [t0]; exact nI_ge ha (by omega)), nI_1]
    show _ = some (Sum.inl (nI (if mxF f a < f a then f a else mxF f a), _))
    by_cases e1 : x.testBit a = true
    · rw [if_pos e1] at b3
      rw [mbl_1 hx (by omega) h1 e1, if_neg one_ne, hal a ha, b3, Bd_some, Bd_some]
      by_cases e : mxF f a < f a
      · rw [if_pos (nI_lt e (by omega)), if_pos e]
      · rw [if_neg (nI_nlt (by omega) (by omega)), if_neg e]
    · rw [if_neg e1] at b3
      rw [mbl_0 hx (by omega) h1 e1, if_pos rfl, Bd_some, if_neg (show ¬ mxF f a < f a by omega)]
  have he : b_X2_greatestPartAlike_5 117 (nI (enc n w)) t M (nI (mxF f n), nI n) = some (.inr (nI (mxF f n))) := by
    unfold b_X2_greatestPartAlike_5
    rw [if_pos (show M t 0 ≤ nI n by rw [t0]; exact nI_le (Nat.le_refl _) (by omega))]
  rw [Lp_from (s0 := ((0 : Int32), (0 : Int32))) (fun a => (nI (mxF f a), nI a)) n _ rfl hs he (by omega), Bd_some]
theorem bitsM : ∀ x, x < 64 → f_X12_bits (nI x) = some (nI (6 - cntI x 6)) := by decide +kernel
theorem some_bit : ∀ x, x < 64 → ¬ x = 0 → ∃ a, a < 6 ∧ x.testBit a = true := by decide +kernel
theorem lateF_lt2 {n k : Nat} {Me N R : Nat → Nat} : ∀ h, lateF n k Me N R h < 2 ^ n
  | 0 => by
    show 2 ^ n - 1 < 2 ^ n
    have : 0 < 2 ^ n := Nat.pow_pos (by omega)
    omega
  | h + 1 => Nat.lt_of_le_of_lt (clrB_le n) (lateF_lt2 h)
/-- best and least behind i rows -/
def lsS (gp : Nat → Nat) (bc : Nat) : Nat → Int32 × Nat
  | 0 => (-1, bc)
  | i + 1 => if gp i < (lsS gp bc i).2 then (nI i, gp i) else lsS gp bc i
theorem lsS_le {gp : Nat → Nat} {bc : Nat} : ∀ i, (lsS gp bc i).2 ≤ bc
  | 0 => Nat.le_refl _
  | i + 1 => by
    have ih := lsS_le (gp := gp) (bc := bc) i
    show (if gp i < (lsS gp bc i).2 then (nI i, gp i) else lsS gp bc i).2 ≤ bc
    split
    · show gp i ≤ bc; omega
    · exact ih
theorem lsS_stay {gp : Nat → Nat} {bc i : Nat} (h : ∀ j, i ≤ j → ¬ gp j < (lsS gp bc i).2) : ∀ j, i ≤ j → lsS gp bc j = lsS gp bc i
  | 0, hj => by rw [show i = 0 by omega]
  | j + 1, hj => by
    by_cases e : i = j + 1
    · rw [e]
    · have ih := lsS_stay h j (by omega)
      show (if gp j < (lsS gp bc j).2 then (nI j, gp j) else lsS gp bc j) = _
      rw [ih, if_neg (h j (by omega))]
