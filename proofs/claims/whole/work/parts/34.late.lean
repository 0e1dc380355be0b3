/-! a late bell: masks over a packed row -/
theorem xor8 {a b A B : Nat} (ha : a < 8) (hb : b < 8) : (a + 8 * A) ^^^ (b + 8 * B) = (a ^^^ b) + 8 * (A ^^^ B) := by
  have h1 : ((a + 8 * A) ^^^ (b + 8 * B)) % 2 ^ 3 = a ^^^ b := by
    rw [Nat.xor_mod_two_pow]
    congr 1 <;> omega
  have h2 : ((a + 8 * A) ^^^ (b + 8 * B)) / 2 ^ 3 = A ^^^ B := by
    rw [Nat.xor_div_two_pow]
    congr 1 <;> omega
  have h3 := Nat.div_add_mod ((a + 8 * A) ^^^ (b + 8 * B)) (2 ^ 3)
  rw [h1, h2] at h3
  omega
theorem enc_xor : ∀ (n : Nat) (w v : Nat → Nat), (∀ p, p < n → w p < 8) → (∀ p, p < n → v p < 8) → enc n w ^^^ enc n v = enc n (fun p => w p ^^^ v p)
  | 0, _, _, _, _ => by simp [enc]
  | n + 1, w, v, h1, h2 => by
    rw [enc, enc, enc, xor8 (h1 0 (by omega)) (h2 0 (by omega)), enc_xor n _ _ (fun p hp => h1 (p + 1) (by omega)) (fun p hp => h2 (p + 1) (by omega))]
theorem enc_zero : ∀ (n : Nat), enc n (fun _ => 0) = 0
  | 0 => rfl
  | n + 1 => by rw [enc, enc_zero n]
theorem enc_single : ∀ (n q d : Nat), q < n → enc n (fun p => if p = q then d else 0) = d * 8 ^ q
  | 0, _, _, h => by omega
  | n + 1, 0, d, _ => by
    rw [enc, if_pos rfl, enc_congr n (fun p => if p + 1 = 0 then d else 0) (fun _ => 0) (fun p _ => by rw [if_neg (by omega)]), enc_zero]
    omega
  | n + 1, q + 1, d, h => by
    rw [enc, if_neg (by omega), enc_congr n (fun p => if p + 1 = q + 1 then d else 0) (fun p => if p = q then d else 0) (fun p _ => by
      by_cases e : p = q
      · rw [if_pos e, if_pos (by omega)]
      · rw [if_neg e, if_neg (by omega)]), enc_single n q d (by omega), Nat.pow_succ, Nat.zero_add, Nat.mul_comm 8 (d * 8 ^ q), Nat.mul_assoc]
def prm (n : Nat) (w : Nat → Nat) : Prop := (∀ p, p < n → w p < n) ∧ ∀ p q, p < n → q < n → w p = w q → p = q
theorem prm8 {n : Nat} {w : Nat → Nat} (hn : n ≤ 6) (h : prm n w) : ∀ p, p < n → w p < 8 := fun p hp => by have := h.1 p hp; omega
theorem prm9 {n : Nat} {w : Nat → Nat} (hn : n ≤ 6) (h : prm n w) : ∀ p, p < n → w p < 9 := fun p hp => by have := h.1 p hp; omega
theorem prm_plR {n k : Nat} {Me : Nat → Nat} (hk : 0 < k) (hMe : ∀ i, i < k → isC n (Me i) = true) : ∀ i, prm n (plR k Me i)
  | 0 => ⟨fun p hp => hp, fun _ _ _ _ e => e⟩
  | i + 1 => by
    have ih := prm_plR hk hMe i
    have hc := hMe (i % k) (Nat.mod_lt _ hk)
    exact ⟨fun p hp => ih.1 _ (pm_lt hc hp), fun p q hp hq e => pm_inj hc hp hq (ih.2 _ _ (pm_lt hc hp) (pm_lt hc hq) e)⟩
theorem ltR_last {n b q : Nat} {w : Nat → Nat} (h : prm n w) (hq : q + 1 = n) (hb : w q = b) : ∀ p, p < n → ltR n b w p = w p := fun p hp => by
  unfold ltR
  rw [if_neg (fun e => by have := h.2 p q hp (by omega) (by rw [e.2, hb]); omega), if_neg (fun e => by have := h.2 (p - 1) q (by omega) (by omega) (by rw [e.2, hb]); omega)]
theorem ltR_mid {n b q : Nat} {w : Nat → Nat} (h : prm n w) (hq : q + 1 < n) (hb : w q = b) : ∀ p, p < n → ltR n b w p = if p = q then w (q + 1) else if p = q + 1 then b else w p := fun p hp => by
  unfold ltR
  by_cases h1 : p = q
  · subst h1
    rw [if_pos ⟨hq, hb⟩, if_pos rfl]
  · rw [if_neg (fun e => h1 (h.2 p q hp (by omega) (by rw [e.2, hb]))), if_neg h1]
    by_cases h2 : p = q + 1
    · subst h2
      rw [if_pos ⟨by omega, hb⟩, if_pos rfl]
      exact hb
    · rw [if_neg (fun e => by have := h.2 (p - 1) q (by omega) (by omega) (by rw [e.2, hb]); omega), if_neg h2]
theorem ltR_lt {n b : Nat} {w : Nat → Nat} (hn : n ≤ 6) (h : prm n w) (hb : b < n) : ∀ p, p < n → ltR n b w p < 8 := fun p hp => by
  obtain ⟨q, hq, hqb⟩ := surj n w h.1 h.2 b hb
  have h8 := prm8 hn h
  by_cases hl : q + 1 = n
  · rw [ltR_last h hl hqb p hp]; exact h8 p hp
  · rw [ltR_mid h (by omega) hqb p hp]
    split
    · exact h8 _ (by omega)
    · split
      · omega
      · exact h8 _ hp
theorem withLate_spec {n b : Nat} {w : Nat → Nat} (hn : n ≤ 6) (h : prm n w) (hb : b < n) : f_X5_withLate (nI (enc n w)) (nI b) (nI n) = some (nI (enc n (ltR n b w))) := by
  obtain ⟨q, hq, hqb⟩ := surj n w h.1 h.2 b hb
  have h8 := prm8 hn h
  unfold f_X5_withLate
  simp only [Lt_eq]
  rw [placeOf_enc hn h8 hq (by omega) hqb (fun a ha e => by have := h.2 a q (by omega) hq (by rw [e, hqb]); omega), Bd_some, if_neg (nI_m1 (by omega)), show nI n - (1 : Int32) = nI (n - 1) from pk_sub (b := 1) (by omega)]
  by_cases hl : q + 1 = n
  · rw [if_pos (by rw [show q = n - 1 by omega]), enc_congr n (ltR n b w) w (ltR_last h hl hqb)]
  · rw [if_neg (fun e => by have := nI_inj (by omega) (by omega) e; omega), nI_1, bellIn_enc hn h8 hq, bellIn_enc hn h8 (show q + 1 < n by omega), nI_xor, show (3 : Int32) * nI q = nI (3 * q) from pk_mul 3 q]
    have hd : w q ^^^ w (q + 1) < 2 ^ 3 := Nat.xor_lt_two_pow (by have := h8 q hq; omega) (by have := h8 (q + 1) (by omega); omega)
    generalize hdd : w q ^^^ w (q + 1) = d at *
    have e8 : d * 2 ^ (3 * q) = d * 8 ^ q := by rw [Nat.pow_mul]
    have hb8 : 8 ^ q ≤ 8 ^ 5 := Nat.pow_le_pow_right (by omega) (by omega)
    have hbb : d * 8 ^ q ≤ 7 * 8 ^ 5 := Nat.mul_le_mul (by omega) hb8
    rw [sl_nI (by omega) (by rw [e8]; omega), e8]
    rw [show sl (nI (d * 8 ^ q)) (3 : Int32) = nI (d * 8 ^ q * 2 ^ 3) from sl_nI (k := 3) (by omega) (by omega), nI_xor, nI_xor]
    have e9 : d * 8 ^ q * 2 ^ 3 = d * 8 ^ (q + 1) := by rw [Nat.pow_succ 8 q, Nat.mul_assoc]
    rw [e9, ← enc_single n q d hq, ← enc_single n (q + 1) d (by omega), enc_xor n _ _ h8 (fun p _ => by split <;> omega), enc_xor n _ _ (fun p hp => ?_) (fun p _ => by split <;> omega)]
    · congr 2
      refine enc_congr n _ _ (fun p hp => ?_)
      rw [ltR_mid h (by omega) hqb p hp]
      by_cases h1 : p = q
      · subst h1
        rw [if_pos rfl, if_neg (show ¬ p = p + 1 by omega), if_pos rfl, Nat.xor_zero, ← hdd, ← Nat.xor_assoc, Nat.xor_self, Nat.zero_xor]
      · rw [if_neg h1, if_neg h1, Nat.xor_zero]
        by_cases h2 : p = q + 1
        · rw [if_pos h2, if_pos h2, h2, ← hdd, Nat.xor_comm, Nat.xor_assoc, Nat.xor_self, Nat.xor_zero, hqb]
        · rw [if_neg h2, if_neg h2, Nat.xor_zero]
    · show w p ^^^ (if p = q then d else 0) < 8
      exact Nat.xor_lt_two_pow (n := 3) (h8 p hp) (by split <;> omega)
/-! the reference: the plain row, how it is heard, who may be late -/
theorem nI_any (v : Int32) : ∃ a : Nat, v = nI a := ⟨v.toBitVec.toNat, by
  apply Int32.toBitVec_inj.1
  show v.toBitVec = BitVec.ofNat 32 v.toBitVec.toNat
  simp⟩
theorem AR_any (r : Nat → Int32) : ∃ E, AR E r := ⟨fun j => (r j).toBitVec.toNat, fun j _ => by
  apply Int32.toBitVec_inj.1
  show (r j).toBitVec = BitVec.ofNat 32 (r j).toBitVec.toNat
  simp⟩
theorem toRoundsR {o1 : Nat} {M : Mm} (hl : kln o1 = 23) : ∃ M', f_X12_toRounds o1 M = some M' ∧ (∀ p, p < 6 → M' o1 (5 + p) = nI p) ∧ ∀ o, o ≠ o1 → M' o = M o := by
  obtain ⟨E, hE⟩ := AR_any (M o1)
  obtain ⟨M', g1, g2, g3⟩ := toRounds_spec hl hE
  exact ⟨M', g1, fun p hp => by rw [g2 (5 + p) (by omega), rnE_row (n := 6) (by omega) hp], g3⟩
theorem layTrue_spec {n k ns C m : Nat} {Me W S : Nat → Nat} {M : Mm} (hV : TV n k ns C Me W S) (hn : 0 < n) (hM : MT n k ns C Me W S M) (hm : m ≤ 500) : ∃ M', f_X12_layTrue 128 (nI m) M = some M' ∧ (∀ p, p < n → M' 137 (5 + p) = nI (plR k Me m p)) ∧ ∀ o, o ≠ 137 → M' o = M o := by
  obtain ⟨hb, -, -, hMe, -⟩ := hV
  obtain ⟨m16, m17, m18, m19, mMe, -⟩ := hM
  obtain ⟨M0, g1, g2, g3⟩ := toRoundsR (o1 := 137) (M := M) (by decide)
  unfold f_X12_layTrue
  rw [g1, Bd_some]
  have key := Lp_inv (f := b_X12_layTrue_9 128 (nI m)) (fun s => ∃ i, i ≤ m ∧ s.1 = nI i ∧ (∀ p, p < n → s.2 137 (5 + p) = nI (plR k Me i p)) ∧ ∀ o, o ≠ 137 → s.2 o = M o) (fun s => m - s.1.toNatClampNeg) (fun t => (∀ p, p < n → t 137 (5 + p) = nI (plR k Me m p)) ∧ ∀ o, o ≠ 137 → t o = M o) ?_ 100000 ((0 : Int32), M0) ⟨0, by omega, rfl, fun p hp => g2 p (by omega), g3⟩ (by show m - _ < _; omega)
  · obtain ⟨M1, q1, q2⟩ := key
    exact ⟨M1, by rw [q1, Bd_some], q2⟩
  · rintro ⟨x, Mi⟩ ⟨i, hi, hx, hAi, hF⟩
    simp only at hx hAi hF
    subst hx
    have f17 : Mi 128 17 = nI k := by rw [hF 128 (by omega)]; exact m17
    have hlt := Nat.mod_lt i (show 0 < k by omega)
    unfold b_X12_layTrue_9
    simp only [Lt_eq]
    by_cases hin : i = m
    · subst hin
      exact Or.inr ⟨_, by rw [if_pos (nI_le (Nat.le_refl _) (by omega))], hAi, hF⟩
    · obtain ⟨hc1, hc2⟩ := hMe (i % k) hlt
      have hc64 : Me (i % k) < 64 := Nat.lt_of_lt_of_le hc1 (pow_ns (by omega))
      have hg1 : ¬ Mi 128 17 = 0 := by rw [f17]; exact nI_ne0 (by omega) (by omega)
      have hg2 : rm (nI i) (Mi 128 17) = nI (i % k) := by rw [f17, rm_nI (by omega) (by omega) (by omega)]
      have hg3 : ib (rm (nI i) (Mi 128 17)) 12 := by rw [hg2]; exact (ib_nI (by omega)).mpr (by omega)
      refine Or.inl ⟨(nI (i + 1), stA Mi 137 (chR (Me (i % k)) n (Mi 137))), by rw [if_neg (nI_ge (show i < m by omega) (by omega)), Gd_t hg1, Gd_t hg3, hg2, ix_nI (by omega), hF 134 (by omega), mMe _ hlt, changes_spec (n := n) (by omega) (by omega) hc2 (by rw [hF 128 (by omega)]; exact m16) (by decide) (by omega), Bd_some, nI_1], ⟨i + 1, by omega, rfl, fun p hp => ?_, fun o ho => (stA_ne ho).trans (hF o ho)⟩, ?_⟩
      · show stA Mi 137 (chR (Me (i % k)) n (Mi 137)) 137 (5 + p) = nI (plR k Me i (pm (Me (i % k)) p))
        rw [stA_self]
        unfold chR
        rw [if_pos (by omega), show 5 + p - 5 = p by omega]
        exact hAi _ (pm_lt hc2 hp)
      · show m - (nI (i + 1)).toNatClampNeg < m - (nI i).toNatClampNeg
        rw [nI_clamp (by omega), nI_clamp (by omega)]
        omega
theorem heardOf_spec {n b : Nat} {w : Nat → Nat} {M : Mm} (hn : n ≤ 6) (m16 : M 128 16 = nI n) (h : prm n w) (hb : b < n) (hr : ∀ p, p < n → M 137 (5 + p) = nI (w p)) : ∃ M', f_X12_heardOf 128 (nI b) M = some (nI (figs n (ltR n b w)), M') ∧ (∀ p, p < n → M' 137 (5 + p) = nI (w p)) ∧ ∀ o, o ≠ 137 → M' o = M o := by
  obtain ⟨q, hq, hqb⟩ := surj n w h.1 h.2 b hb
  have h8 := prm8 hn h
  unfold f_X12_heardOf
  simp only [Lt_eq]
  rw [placeM_spec m16 hn (by decide) hr h8 h.2 (by omega) hq hqb, Bd_some, m16, show nI n - (1 : Int32) = nI (n - 1) from pk_sub (b := 1) (by omega)]
  by_cases hl : q + 1 = n
  · rw [if_pos (by rw [show q = n - 1 by omega]), figOf_spec m16 hn (by decide) hr, Bd_some, figs_congr n (ltR n b w) w (ltR_last h hl hqb)]
    exact ⟨_, rfl, hr, fun _ _ => rfl⟩
  · rw [if_neg (fun e => by have := nI_inj (by omega) (by omega) e; omega), show (5 : Int32) + nI q = nI (5 + q) from nI_add 5 q, nI_1, Gd_t ((ib_nI (by omega)).mpr (by omega)), Gd_t ((ib_nI (by omega)).mpr (by omega)), Gd_t ((ib_nI (by omega)).mpr (by omega)), ix_nI (by omega), ix_nI (by omega), show M 137 (5 + q + 1) = nI (w (q + 1)) from hr (q + 1) (by omega)]
    generalize hM8 : st2 (st2 M 137 (5 + q) (nI (w (q + 1)))) 137 (5 + q + 1) (nI b) = M8
    have r8 : ∀ p, p < n → M8 137 (5 + p) = nI (ltR n b w p) := fun p hp => by
      rw [← hM8, s2_at, s2_at, ltR_mid h (by omega) hqb p hp]
      by_cases h1 : p = q
      · subst h1
        rw [if_neg (by omega), if_pos ⟨rfl, rfl⟩, if_pos rfl]
      · by_cases h2 : p = q + 1
        · subst h2
          rw [if_pos ⟨rfl, by omega⟩, if_neg (by omega), if_pos rfl]
        · rw [if_neg (by omega), if_neg (by omega), if_neg h1, if_neg h2]
          exact hr p hp
    have f8 : ∀ o, o ≠ 137 → M8 o = M o := fun o ho => by rw [← hM8, s2_ne ho, s2_ne ho]
    rw [figOf_spec (by rw [f8 128 (by omega)]; exact m16) hn (by decide) r8, Bd_some, Gd_t ((ib_nI (by omega)).mpr (by omega)), Gd_t ((ib_nI (by omega)).mpr (by omega)), Gd_t ((ib_nI (by omega)).mpr (by omega))]
    have e8 : M8 137 (5 + q) = nI (w (q + 1)) := by rw [← hM8, s2_nk (by omega), s2_eq]
    rw [e8]
    refine ⟨_, rfl, fun p hp => ?_, fun o ho => by rw [s2_ne ho, s2_ne ho, f8 o ho]⟩
    rw [s2_at, s2_at]
    by_cases h1 : p = q
    · subst h1
      rw [if_pos ⟨rfl, rfl⟩, hqb]
    · rw [if_neg (by omega)]
      by_cases h2 : p = q + 1
      · subst h2
        rw [if_pos ⟨rfl, by omega⟩]
      · rw [if_neg (by omega), r8 p hp, ltR_mid h (by omega) hqb p hp, if_neg h1, if_neg h2]
theorem clrB_le {n k : Nat} {Me : Nat → Nat} {N R x : Nat} : ∀ b, clrB n k Me N R x b ≤ x
  | 0 => Nat.le_refl _
  | b + 1 => by
    show (if figs n (ltR n b (plR k Me N)) = R then clrB n k Me N R x b else clrB n k Me N R x b &&& (63 ^^^ 2 ^ b)) ≤ x
    have ih := clrB_le (n := n) (k := k) (Me := Me) (N := N) (R := R) (x := x) b
    split
    · exact ih
    · exact Nat.le_trans Nat.and_le_left ih
theorem lateF_lt {n k : Nat} {Me N R : Nat → Nat} (hn : n ≤ 6) : ∀ h, lateF n k Me N R h < 64
  | 0 => by
    show 2 ^ n - 1 < 64
    have := pow_ns hn
    omega
  | h + 1 => Nat.lt_of_le_of_lt (clrB_le n) (lateF_lt hn h)
theorem lateOnes_spec {n k ns C hh : Nat} {Me W S N R : Nat → Nat} {M : Mm} (hV : TV n k ns C Me W S) (hM : MT n k ns C Me W S M) (h6 : hh ≤ 6) (h0 : n = 0 → hh = 0) (h31 : M 128 31 = nI hh) (hs : ∀ i, i < hh → N i ≤ 500 ∧ R i < 1000000 ∧ M 142 (2 * i) = nI (N i) ∧ M 142 (2 * i + 1) = nI (R i)) : ∃ M', f_X12_lateOnes 128 M = some (nI (lateF n k Me N R hh), M') ∧ ∀ o, o ≠ 137 → M' o = M o := by
  have hb := hV.1
  have hn6 : n ≤ 6 := by omega
  have m16 := hM.1
  unfold f_X12_lateOnes
  simp only [Lt_eq]
  rw [m16, all_spec n (by omega)]
  have key := Lp_inv (f := b_X12_lateOnes_11 128) (fun s => ∃ i, i ≤ hh ∧ s.1 = nI (lateF n k Me N R i) ∧ s.2.1 = nI i ∧ ∀ o, o ≠ 137 → s.2.2 o = M o) (fun s => hh - s.2.1.toNatClampNeg) (fun t => t.1 = nI (lateF n k Me N R hh) ∧ ∀ o, o ≠ 137 → t.2 o = M o) ?_ 100000 (nI (2 ^ n - 1), (0 : Int32), M) ⟨0, by omega, rfl, rfl, fun _ _ => rfl⟩ (by show hh - _ < _; omega)
  · obtain ⟨⟨v, M1⟩, q1, q2, q3⟩ := key
    simp only at q2 q3
    subst q2
    exact ⟨M1, by rw [q1, Bd_some], q3⟩
  · rintro ⟨v, x, Mi⟩ ⟨i, hi, hv, hx, hF⟩
    simp only at hv hx hF
    subst hx
    subst hv
    have hMi : MT n k ns C Me W S Mi := MT_c (fun o ho => hF o (by omega)) hM
    have f31 : Mi 128 31 = nI hh := by rw [hF 128 (by omega)]; exact h31
    unfold b_X12_lateOnes_11
    simp only [Lt_eq]
    by_cases hin : i = hh
    · subst hin
      exact Or.inr ⟨_, by rw [if_pos (show Mi 128 31 ≤ nI i by rw [f31]; exact nI_le (Nat.le_refl _) (by omega))], rfl, hF⟩
    · have hil : i < hh := by omega
      have hn0 : 0 < n := by
        by_cases q : n = 0
        · have := h0 q; omega
        · omega
      obtain ⟨s1, s2, s3, s4⟩ := hs i hil
      obtain ⟨ML, l1, l2, l3⟩ := layTrue_spec (m := N i) hV hn0 hMi s1
      have hp : prm n (plR k Me (N i)) := prm_plR (by omega) (fun j hj => (hV.2.2.2.1 j hj).2) (N i)
      rw [if_neg (show ¬ Mi 128 31 ≤ nI i by rw [f31]; exact nI_ge hil (by omega)), show (2 : Int32) * nI i = nI (2 * i) from pk_mul 2 i, Gd_t ((ib_nI (by omega)).mpr (by omega)), ix_nI (by omega), hF 142 (by omega), s3, l1, Bd_some]
      have inner := Lp_inv (f := b_X12_lateOnes_33 128 (nI (lateF n k Me N R i), nI i, Mi)) (fun s => ∃ b, b ≤ n ∧ s.1 = nI (clrB n k Me (N i) (R i) (lateF n k Me N R i) b) ∧ s.2.1 = nI b ∧ (∀ p, p < n → s.2.2 137 (5 + p) = nI (plR k Me (N i) p)) ∧ ∀ o, o ≠ 137 → s.2.2 o = M o) (fun s => n - s.2.1.toNatClampNeg) (fun t => t.1 = nI (lateF n k Me N R (i + 1)) ∧ ∀ o, o ≠ 137 → t.2 o = M o) ?_ 100000 (nI (lateF n k Me N R i), (0 : Int32), ML) ⟨0, by omega, rfl, rfl, l2, fun o ho => (l3 o ho).trans (hF o ho)⟩ (by show n - _ < _; omega)
      · obtain ⟨⟨v2, M2⟩, q1, q2, q3⟩ := inner
        simp only at q2 q3
        subst q2
        refine Or.inl ⟨_, by rw [q1, Bd_some, nI_1], ⟨i + 1, by omega, rfl, rfl, q3⟩, ?_⟩
        show hh - (nI (i + 1)).toNatClampNeg < hh - (nI i).toNatClampNeg
        rw [nI_clamp (by omega), nI_clamp (by omega)]
        omega
      · rintro ⟨v3, x3, Mj⟩ ⟨b, hbn, hv3, hx3, hrow, hFj⟩
        simp only at hv3 hx3 hrow hFj
        subst hx3
        subst hv3
        have f16 : Mj 128 16 = nI n := by rw [hFj 128 (by omega)]; exact m16
        unfold b_X12_lateOnes_33
        simp only [Lt_eq]
        rw [f16]
        by_cases hbe : b = n
        · subst hbe
          exact Or.inr ⟨_, by rw [if_pos (nI_le (Nat.le_refl _) (by omega))], rfl, hFj⟩
        · have hbl : b < n := by omega
          obtain ⟨MH, y1, y2, y3⟩ := heardOf_spec hn6 f16 hp hbl hrow
          have hfb : figs n (ltR n b (plR k Me (N i))) < 1000000 := figs_b hn6 (fun p hp2 => by have := ltR_lt hn6 hp hbl p hp2; omega)
          have hx64 : clrB n k Me (N i) (R i) (lateF n k Me N R i) b < 64 := Nat.lt_of_le_of_lt (clrB_le b) (lateF_lt hn6 i)
          refine Or.inl ⟨_, by rw [if_neg (nI_ge hbl (by omega)), y1, Bd_some, show (2 : Int32) * nI i = nI (2 * i) from pk_mul 2 i, nI_1, Gd_t ((ib_nI (by omega)).mpr (by omega)), ix_nI (by omega), nI_1], ⟨b + 1, by omega, ?_, rfl, y2, fun o ho => (y3 o ho).trans (hFj o ho)⟩, ?_⟩
          · show (if nI (figs n (ltR n b (plR k Me (N i)))) = MH 142 (2 * i + 1) then _ else _) = nI (if figs n (ltR n b (plR k Me (N i))) = R i then clrB n k Me (N i) (R i) (lateF n k Me N R i) b else clrB n k Me (N i) (R i) (lateF n k Me N R i) b &&& (63 ^^^ 2 ^ b))
            rw [y3 142 (by omega), hFj 142 (by omega), s4]
            by_cases e : figs n (ltR n b (plR k Me (N i))) = R i
            · rw [if_pos (by rw [e]), if_pos e]
            · rw [if_neg (fun q => e (nI_inj (by omega) (by omega) q)), if_neg e, clr_spec _ hx64 b (by omega)]
          · show n - (nI (b + 1)).toNatClampNeg < n - (nI b).toNatClampNeg
            rw [nI_clamp (by omega), nI_clamp (by omega)]
            omega
