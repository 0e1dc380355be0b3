/-! listen -/
def smF (f : Nat → Nat) : Nat → Nat
  | 0 => 0
  | i + 1 => smF f i + f i
def mxF (f : Nat → Nat) : Nat → Nat
  | 0 => 0
  | i + 1 => if mxF f i < f i then f i else mxF f i
theorem smF_congr {f g : Nat → Nat} : ∀ n, (∀ i, i < n → f i = g i) → smF f n = smF g n
  | 0, _ => rfl
  | n + 1, h => by
    show smF f n + f n = smF g n + g n
    rw [smF_congr n (fun i hi => h i (by omega)), h n (by omega)]
theorem mxF_congr {f g : Nat → Nat} : ∀ n, (∀ i, i < n → f i = g i) → mxF f n = mxF g n
  | 0, _ => rfl
  | n + 1, h => by
    show (if mxF f n < f n then f n else mxF f n) = (if mxF g n < g n then g n else mxF g n)
    rw [mxF_congr n (fun i hi => h i (by omega)), h n (by omega)]
theorem mxF_ge {f : Nat → Nat} : ∀ n i, i < n → f i ≤ mxF f n
  | 0, _, h => by omega
  | n + 1, i, h => by
    show f i ≤ (if mxF f n < f n then f n else mxF f n)
    by_cases e : i = n
    · subst e
      split <;> omega
    · have := mxF_ge (f := f) n i (by omega)
      split <;> omega
theorem smF_ge {f : Nat → Nat} : ∀ n i, i < n → f i ≤ smF f n
  | 0, _, h => by omega
  | n + 1, i, h => by
    show f i ≤ smF f n + f n
    by_cases e : i = n
    · subst e; omega
    · have := smF_ge (f := f) n i (by omega)
      omega
theorem smF_le {f : Nat → Nat} (h : ∀ i, f i ≤ 1) : ∀ n, smF f n ≤ n
  | 0 => Nat.le_refl _
  | n + 1 => by
    show smF f n + f n ≤ n + 1
    have := smF_le h n
    have := h n
    omega
theorem mxF_le {f : Nat → Nat} {c : Nat} (h : ∀ i, f i ≤ c) : ∀ n, mxF f n ≤ c
  | 0 => by show 0 ≤ c; omega
  | n + 1 => by
    show (if mxF f n < f n then f n else mxF f n) ≤ c
    have := mxF_le h n
    have := h n
    split <;> omega
theorem smF_zero : ∀ n, smF (fun _ => 0) n = 0
  | 0 => rfl
  | n + 1 => by
    show smF (fun _ => 0) n + 0 = 0
    rw [smF_zero n]
/-- the greatest part that would be heard alike -/
def gpA (n x : Nat) (hv : Nat → Nat) : Nat := mxF (fun a => if x.testBit a = true then smF (fun b => if x.testBit b = true then (if hv b = hv a then 1 else 0) else 0) n else 0) n
theorem gpA_pos {n x a : Nat} {hv : Nat → Nat} (ha : a < n) (hb : x.testBit a = true) : 1 ≤ gpA n x hv := by
  have h1 := mxF_ge (f := fun a => if x.testBit a = true then smF (fun b => if x.testBit b = true then (if hv b = hv a then 1 else 0) else 0) n else 0) n a ha
  have h2 := smF_ge (f := fun b => if x.testBit b = true then (if hv b = hv a then 1 else 0) else 0) n a ha
  simp only [hb, if_true] at h1 h2
  exact Nat.le_trans h2 h1
theorem gpA_le {n x : Nat} {hv : Nat → Nat} : gpA n x hv ≤ n := by
  unfold gpA
  apply mxF_le
  intro i
  split
  · apply smF_le
    intro j
    split
    · split <;> omega
    · omega
  · omega
theorem great1 {t n x : Nat} {w : Nat → Nat} {M : Mm} (ht : t = 1 ∨ t = 18) (h0 : M 0 0 = nI t) (t0 : M t 0 = nI n) (hn : n ≤ 6) (hx : x < 64) (h1 : M 117 1 = nI x) (hp : prm n w) : ∃ (c : Nat) (ls : Nat → Nat) (M' : Mm), Lp (b_X11_greatestPartAlike_4 0 (nI (enc n w))) 100000 ((0 : Int32), (0 : Int32), M) = some (nI c, M') ∧ c ≤ n ∧ (∀ q, q < c → M' 120 q = nI (ls q) ∧ ls q < 262144) ∧ (∀ F : Nat → Nat, smF (fun q => F (ls q)) c = smF (fun b => if x.testBit b = true then F (enc n (ltR n b w)) else 0) n) ∧ (∀ F : Nat → Nat, mxF (fun q => F (ls q)) c = mxF (fun b => if x.testBit b = true then F (enc n (ltR n b w)) else 0) n) ∧ ∀ o, o ≠ 120 → M' o = M o := by
  have key := Lp_inv (f := b_X11_greatestPartAlike_4 0 (nI (enc n w))) (fun s => ∃ (b c : Nat) (ls : Nat → Nat), b ≤ n ∧ c ≤ b ∧ s.1 = nI c ∧ s.2.1 = nI b ∧ (∀ q, q < c → s.2.2 120 q = nI (ls q) ∧ ls q < 262144) ∧ (∀ F : Nat → Nat, smF (fun q => F (ls q)) c = smF (fun b => if x.testBit b = true then F (enc n (ltR n b w)) else 0) b) ∧ (∀ F : Nat → Nat, mxF (fun q => F (ls q)) c = mxF (fun b => if x.testBit b = true then F (enc n (ltR n b w)) else 0) b) ∧ ∀ o, o ≠ 120 → s.2.2 o = M o) (fun s => n - s.2.1.toNatClampNeg) (fun r => ∃ (c : Nat) (ls : Nat → Nat), r.1 = nI c ∧ c ≤ n ∧ (∀ q, q < c → r.2 120 q = nI (ls q) ∧ ls q < 262144) ∧ (∀ F : Nat → Nat, smF (fun q => F (ls q)) c = smF (fun b => if x.testBit b = true then F (enc n (ltR n b w)) else 0) n) ∧ (∀ F : Nat → Nat, mxF (fun q => F (ls q)) c = mxF (fun b => if x.testBit b = true then F (enc n (ltR n b w)) else 0) n) ∧ ∀ o, o ≠ 120 → r.2 o = M o) (fun s hs => by
    obtain ⟨b, c, ls, hb, hc, hv, hy, hL, hS, hX, hF⟩ := hs
    obtain ⟨v, y, Mi⟩ := s
    simp only at hv hy hL hF
    subst hv
    subst hy
    have z : (Mi 0 0).toNatClampNeg = t := by rw [hF 0 (by omega)]; exact tw_ref h0 ht
    have f0 : Mi t 0 = nI n := by rw [hF t (by omega)]; exact t0
    have f1 : Mi 117 1 = nI x := by rw [hF 117 (by omega)]; exact h1
    by_cases hin : b = n
    · subst hin
      refine Or.inr ⟨(nI c, Mi), ?_, c, ls, rfl, hc, hL, hS, hX, hF⟩
      unfold b_X11_greatestPartAlike_4
      simp only [z, Gd_t (kd_tw ht)]
      rw [if_pos (show Mi t 0 ≤ nI b by rw [f0]; exact nI_le (Nat.le_refl _) (by omega))]
    · have hbl : b < n := by omega
      have hmu : n - (nI (b + 1)).toNatClampNeg < n - (nI b).toNatClampNeg := by
        rw [nI_clamp (by omega), nI_clamp (by omega)]
        omega
      by_cases hbit : x.testBit b = true
      · have he := enc_b hn (ltR_lt hn hp hbl)
        refine Or.inl ⟨(nI (c + 1), nI (b + 1), st2 Mi 120 c (nI (enc n (ltR n b w)))), ?_, ⟨b + 1, c + 1, fun q => if q = c then enc n (ltR n b w) else ls q, by omega, by omega, rfl, rfl, fun q hq => ?_, fun F => ?_, fun F => ?_, fun o ho => (s2_ne ho).trans (hF o ho)⟩, hmu⟩
        · have hbz : ¬ ((sr (Mi 117 1) (nI b)) &&& (1 : Int32)) = 0 := by rw [f1, bit_nI (by omega) (by omega), if_pos hbit]; exact one_ne
          unfold b_X11_greatestPartAlike_4
          simp only [z, Gd_t (kd_tw ht), Lt_eq]
          rw [if_neg (show ¬ Mi t 0 ≤ nI b by rw [f0]; exact nI_ge hbl (by omega)), if_neg (show ¬ (6 : Int32) ≤ nI b from nI_ge (b := 6) (by omega) (by omega)), if_neg hbz, f0, withLate_spec hn hp hbl, Bd_some, Gd_t ((ib_nI (by omega)).mpr (by omega)), ix_nI (by omega), Bd_some, nI_1, nI_1]
        · show st2 Mi 120 c (nI (enc n (ltR n b w))) 120 q = nI (if q = c then enc n (ltR n b w) else ls q) ∧ (if q = c then enc n (ltR n b w) else ls q) < 262144
          rw [s2_at]
          by_cases e : q = c
          · rw [if_pos ⟨rfl, e⟩, if_pos e]; exact ⟨rfl, he⟩
          · rw [if_neg (by omega), if_neg e]; exact hL q (by omega)
        · show smF (fun q => F (if q = c then enc n (ltR n b w) else ls q)) c + F (if c = c then enc n (ltR n b w) else ls c) = smF _ b + (if x.testBit b = true then F (enc n (ltR n b w)) else 0)
          rw [if_pos rfl, if_pos hbit, smF_congr (g := fun q => F (ls q)) c (fun q hq => by show F (if q = c then _ else _) = _; rw [if_neg (by omega)]), hS F]
        · show (if mxF (fun q => F (if q = c then enc n (ltR n b w) else ls q)) c < F (if c = c then enc n (ltR n b w) else ls c) then F (if c = c then enc n (ltR n b w) else ls c) else mxF (fun q => F (if q = c then enc n (ltR n b w) else ls q)) c) = (if mxF _ b < (if x.testBit b = true then F (enc n (ltR n b w)) else 0) then (if x.testBit b = true then F (enc n (ltR n b w)) else 0) else mxF _ b)
          rw [if_pos rfl, if_pos hbit, mxF_congr (g := fun q => F (ls q)) c (fun q hq => by show F (if q = c then _ else _) = _; rw [if_neg (by omega)]), hX F]
      · refine Or.inl ⟨(nI c, nI (b + 1), Mi), ?_, ⟨b + 1, c, ls, by omega, by omega, rfl, rfl, hL, fun F => ?_, fun F => ?_, hF⟩, hmu⟩
        · have hbz : ((sr (Mi 117 1) (nI b)) &&& (1 : Int32)) = 0 := by rw [f1, bit_nI (by omega) (by omega), if_neg hbit]
          unfold b_X11_greatestPartAlike_4
          simp only [z, Gd_t (kd_tw ht), Lt_eq]
          rw [if_neg (show ¬ Mi t 0 ≤ nI b by rw [f0]; exact nI_ge hbl (by omega)), if_neg (show ¬ (6 : Int32) ≤ nI b from nI_ge (b := 6) (by omega) (by omega)), if_pos hbz, Bd_some, nI_1]
        · rw [hS F]
          show _ = smF _ b + (if x.testBit b = true then F (enc n (ltR n b w)) else 0)
          rw [if_neg hbit, Nat.add_zero]
        · rw [hX F]
          show _ = (if mxF _ b < (if x.testBit b = true then F (enc n (ltR n b w)) else 0) then (if x.testBit b = true then F (enc n (ltR n b w)) else 0) else mxF _ b)
          rw [if_neg hbit, if_neg (by omega)]) 100000 ((0 : Int32), (0 : Int32), M) ⟨0, 0, fun _ => 0, by omega, by omega, rfl, rfl, fun q hq => absurd hq (by omega), fun _ => rfl, fun _ => rfl, fun _ _ => rfl⟩ (by show n - _ < _; omega)
  obtain ⟨⟨v, M'⟩, g1, c, ls, g2, g3, g4, g5, g6, g7⟩ := key
  simp only at g2 g4 g7
  subst g2
  exact ⟨c, ls, M', g1, g3, g4, g5, g6, g7⟩
theorem great_spec {t n x : Nat} {w : Nat → Nat} {M : Mm} (ht : t = 1 ∨ t = 18) (h0 : M 0 0 = nI t) (t0 : M t 0 = nI n) (hn : n ≤ 6) (hx : x < 64) (h1 : M 117 1 = nI x) (hp : prm n w) : ∃ M', f_X11_greatestPartAlike 0 (nI (enc n w)) M = some (nI (gpA n x (fun b => enc n (ltR n b w))), M') ∧ ∀ o, o ≠ 120 → M' o = M o := by
  obtain ⟨c, ls, M', g1, hc, hL, hS, hX, hF⟩ := great1 ht h0 t0 hn hx h1 hp
  unfold f_X11_greatestPartAlike
  rw [g1, Bd_some]
  have inner : ∀ i, i < c → ∀ sd : Int32, Lp (b_X11_greatestPartAlike_79 (nI c, M') (sd, nI i)) 100000 ((0 : Int32), (0 : Int32)) = some (nI (smF (fun q => if ls q = ls i then 1 else 0) c)) := fun i hi sd => by
    have hs : ∀ q, q < c → b_X11_greatestPartAlike_79 (nI c, M') (sd, nI i) (nI (smF (fun q => if ls q = ls i then 1 else 0) q), nI q) = some (.inl (nI (smF (fun q => if ls q = ls i then 1 else 0) (q + 1)), nI (q + 1))) := fun q hq => by
      have a1 := (hL q hq).2
      have a2 := (hL i hi).2
      unfold b_X11_greatestPartAlike_79
      simp only [Lt_eq]
      rw [if_neg (nI_ge hq (by omega)), Gd_t ((ib_nI (by omega)).mpr (by omega)), Gd_t ((ib_nI (by omega)).mpr (by omega)), ix_nI (by omega), ix_nI (by omega), nI_1]
      show _ = some (Sum.inl (nI (smF _ q + if ls q = ls i then 1 else 0), _))
      by_cases e : ls q = ls i
      · rw [if_pos (show M' 120 q = M' 120 i by rw [(hL q hq).1, (hL i hi).1, e]), if_pos e, nI_1]
      · rw [if_neg (show ¬ M' 120 q = M' 120 i by rw [(hL q hq).1, (hL i hi).1]; exact fun z => e (nI_inj (by omega) (by omega) z)), if_neg e, show ∀ z : Nat, nI z + (0 : Int32) = nI (z + 0) from fun z => nI_add z 0]
    have he : b_X11_greatestPartAlike_79 (nI c, M') (sd, nI i) (nI (smF (fun q => if ls q = ls i then 1 else 0) c), nI c) = some (.inr (nI (smF (fun q => if ls q = ls i then 1 else 0) c))) := by
      unfold b_X11_greatestPartAlike_79
      rw [if_pos (nI_le (Nat.le_refl _) (by omega))]
    exact Lp_from (s0 := ((0 : Int32), (0 : Int32))) (fun q => (nI (smF (fun q => if ls q = ls i then 1 else 0) q), nI q)) c _ rfl hs he (by omega)
  have hsm : ∀ i, smF (fun q => if ls q = ls i then 1 else 0) c ≤ c := fun i => smF_le (fun q => by split <;> omega) c
  have hmx : ∀ i, mxF (fun i => smF (fun q => if ls q = ls i then 1 else 0) c) i ≤ c := fun i => mxF_le (fun i => hsm i) i
  have hs : ∀ i, i < c → b_X11_greatestPartAlike_67 (nI c, M') (nI (mxF (fun i => smF (fun q => if ls q = ls i then 1 else 0) c) i), nI i) = some (.inl (nI (mxF (fun i => smF (fun q => if ls q = ls i then 1 else 0) c) (i + 1)), nI (i + 1))) := fun i hi => by
    have a1 := hsm i
    have a2 := hmx i
    unfold b_X11_greatestPartAlike_67
    simp only [Lt_eq]
    rw [if_neg (nI_ge hi (by omega)), inner i hi, Bd_some, nI_1]
    show _ = some (Sum.inl (nI (if mxF (fun i => smF (fun q => if ls q = ls i then 1 else 0) c) i < smF (fun q => if ls q = ls i then 1 else 0) c then smF (fun q => if ls q = ls i then 1 else 0) c else mxF (fun i => smF (fun q => if ls q = ls i then 1 else 0) c) i), _))
    by_cases e : mxF (fun i => smF (fun q => if ls q = ls i then 1 else 0) c) i < smF (fun q => if ls q = ls i then 1 else 0) c
    · rw [if_pos (nI_lt e (by omega)), if_pos e]
    · rw [if_neg (nI_nlt (by omega) (by omega)), if_neg e]
  have he : b_X11_greatestPartAlike_67 (nI c, M') (nI (mxF (fun i => smF (fun q => if ls q = ls i then 1 else 0) c) c), nI c) = some (.inr (nI (mxF (fun i => smF (fun q => if ls q = ls i then 1 else 0) c) c))) := by
    unfold b_X11_greatestPartAlike_67
    rw [if_pos (nI_le (Nat.le_refl _) (by omega))]
  rw [Lp_from (s0 := ((0 : Int32), (0 : Int32))) (fun i => (nI (mxF (fun i => smF (fun q => if ls q = ls i then 1 else 0) c) i), nI i)) c _ rfl hs he (by omega), Bd_some]
  refine ⟨M', ?_, hF⟩
  have h1 := hX (fun v => smF (fun q => if ls q = v then 1 else 0) c)
  have h2 : ∀ v, smF (fun q => if ls q = v then 1 else 0) c = smF (fun b => if x.testBit b = true then (if enc n (ltR n b w) = v then 1 else 0) else 0) n := fun v => hS (fun y => if y = v then 1 else 0)
  rw [h1]
  unfold gpA
  rw [mxF_congr n (fun b hb => by rw [h2])]
theorem bitsM : ∀ x, x < 64 → f_X12_bits (nI x) = some (nI (6 - cntI x 6)) := by decide +kernel
theorem some_bit : ∀ x, x < 64 → ¬ x = 0 → ∃ a, a < 6 ∧ x.testBit a = true := by decide +kernel
theorem lateF_lt2 {n k : Nat} {Me N R : Nat → Nat} : ∀ h, lateF n k Me N R h < 2 ^ n
  | 0 => by
    show 2 ^ n - 1 < 2 ^ n
    have : 0 < 2 ^ n := Nat.pow_pos (by omega)
    omega
  | h + 1 => Nat.lt_of_le_of_lt (clrB_le n) (lateF_lt2 h)
/-- best and least behind i rows -/
def lsS (gp : Nat → Nat) (bc : Nat) : Nat → Int32 × Nat
  | 0 => (-1, bc)
  | i + 1 => if gp i < (lsS gp bc i).2 then (nI i, gp i) else lsS gp bc i
theorem lsS_le {gp : Nat → Nat} {bc : Nat} : ∀ i, (lsS gp bc i).2 ≤ bc
  | 0 => Nat.le_refl _
  | i + 1 => by
    have ih := lsS_le (gp := gp) (bc := bc) i
    show (if gp i < (lsS gp bc i).2 then (nI i, gp i) else lsS gp bc i).2 ≤ bc
    split
    · show gp i ≤ bc; omega
    · exact ih
theorem lsS_stay {gp : Nat → Nat} {bc i : Nat} (h : ∀ j, i ≤ j → ¬ gp j < (lsS gp bc i).2) : ∀ j, i ≤ j → lsS gp bc j = lsS gp bc i
  | 0, hj => by rw [show i = 0 by omega]
  | j + 1, hj => by
    by_cases e : i = j + 1
    · rw [e]
    · have ih := lsS_stay h j (by omega)
      show (if gp j < (lsS gp bc j).2 then (nI j, gp j) else lsS gp bc j) = _
      rw [ih, if_neg (h j (by omega))]
