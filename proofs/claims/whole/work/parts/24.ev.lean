theorem pm_pm {n c p : Nat} (h : isC n c = true) (hp : p < n) : pm c (pm c p) = p := by
  cases hb : c.testBit p with
  | true =>
    have e : pm c p = p := by simp [pm, hb]
    rw [e, e]
  | false =>
    cases h0 : par c p with
    | false =>
      obtain ⟨q1, q2, q3, q4⟩ := isC_pair h hp hb h0
      have e : pm c p = p + 1 := by simp [pm, hb, h0]
      rw [e]
      simp [pm, q2, q3]
    | true =>
      have hp0 : p ≠ 0 := by intro e; subst e; cases h0
      have hb2 : c.testBit (p - 1) = false := by
        cases hq : c.testBit (p - 1) with
        | false => rfl
        | true =>
          have h2 := par_stay hq
          rw [show p - 1 + 1 = p by omega, h0] at h2
          cases h2
      have hp2 : par c (p - 1) = false := by
        have h2 := par_move hb2
        rw [show p - 1 + 1 = p by omega, h0] at h2
        cases hq : par c (p - 1) with
        | false => rfl
        | true => rw [hq] at h2; cases h2
      have e : pm c p = p - 1 := by simp [pm, hb, h0]
      rw [e]
      simp only [pm, hb2, hp2, Bool.false_eq_true, if_false]
      omega
theorem pm_inj {n c p q : Nat} (h : isC n c = true) (hp : p < n) (hq : q < n) (e : pm c p = pm c q) : p = q := by
  rw [← pm_pm h hp, e, pm_pm h hq]
theorem E1f_hi {n k C j : Nat} {Me E : Nat → Nat} (hn : n ≤ 6) (hj : 10 < j) : E1f n k C Me E j = E j := by
  simp only [E1f, up1, rowE]
  rw [if_neg (by omega), if_neg (by omega), if_neg (by omega), if_neg (by omega)]
theorem E1f_34 {n k C j : Nat} {Me E : Nat → Nat} (h1 : 3 ≤ j) (h2 : j < 5) : E1f n k C Me E j = E j := by
  simp only [E1f, up1, rowE]
  rw [if_neg (by omega), if_neg (by omega), if_neg (by omega), if_neg (by omega)]
theorem E1f_row {n k C p : Nat} {Me E : Nat → Nat} (hp : p < n) : E1f n k C Me E (5 + p) = E (5 + pm (if E 2 = 1 then C else Me (E 1 % k)) p) := by
  simp only [E1f, up1, rowE]
  rw [if_neg (by omega), if_neg (by omega), if_neg (by omega), if_pos (by omega), show 5 + p - 5 = p by omega]
theorem tirE_lo {ns j : Nat} {W S E : Nat → Nat} (h : j < 17) : tirE W S ns E j = E j := by rw [tirE, if_neg (by omega)]
theorem ringE_n4 {n k ns C j : Nat} {Me W S E : Nat → Nat} (h : j ≠ 4) : ringE n k ns C Me W S E j = tirE W S ns (E1f n k C Me E) j := by
  rw [ringE_eq]
  split
  · exact outE_ne h
  · rfl
theorem losE_lt {n ns r : Nat} {E : Nat → Nat} (hl : losE n ns E = some r) : r < ns := by
  unfold losE at hl
  split at hl
  · cases hl
  · rename_i r2 h2
    split at hl
    · cases hl
    · split at hl
      · cases hl
        exact (lstR_lt h2).1
      · cases hl
theorem outE_4lt {n ns : Nat} {E : Nat → Nat} (h : E 4 < 2 ^ ns) : outE n ns E 4 < 2 ^ ns := by
  rw [outE_4]
  cases hl : losE n ns E with
  | none => exact h
  | some r => exact Nat.or_lt_two_pow h (Nat.pow_lt_pow_right (by omega) (losE_lt hl))
theorem EV_ring {n k ns C : Nat} {Me W S E : Nat → Nat} (hV : TV n k ns C Me W S) (hn : 0 < n) (hE : EV n k ns E) (hb : E 0 < 12000) : EV n k ns (ringE n k ns C Me W S E) := by
  obtain ⟨hbd, hC1, hC2, hMe, -⟩ := hV
  obtain ⟨e0, e1, e2, e3, e4, eR, eI, eP, eJ, eT⟩ := hE
  have hk : 0 < k := by omega
  have hc4 : isC n (if E 2 = 1 then C else Me (E 1 % k)) = true := by
    split
    · exact hC2
    · exact (hMe _ (Nat.mod_lt _ hk)).2
  have r0 : ringE n k ns C Me W S E 0 = E 0 + 1 := by rw [ringE_n4 (by omega), tirE_lo (by omega)]; rfl
  have r1 : ringE n k ns C Me W S E 1 = E 1 + 1 := by rw [ringE_n4 (by omega), tirE_lo (by omega)]; rfl
  have r2 : ringE n k ns C Me W S E 2 = 0 := by rw [ringE_n4 (by omega), tirE_lo (by omega)]; rfl
  have r3 : ringE n k ns C Me W S E 3 = E 3 := by rw [ringE_n4 (by omega), tirE_lo (by omega), E1f_34 (by omega) (by omega)]
  have rr : ∀ p, p < n → ringE n k ns C Me W S E (5 + p) = E (5 + pm (if E 2 = 1 then C else Me (E 1 % k)) p) := fun p hp => by rw [ringE_n4 (by omega), tirE_lo (by omega), E1f_row hp]
  have rp : ∀ r, r < 6 → ringE n k ns C Me W S E (11 + r) = E (11 + r) := fun r hr => by rw [ringE_n4 (by omega), tirE_lo (by omega), E1f_hi (by omega) (by omega)]
  have h4 : tirE W S ns (E1f n k C Me E) 4 = E 4 := by rw [tirE_lo (by omega), E1f_34 (by omega) (by omega)]
  refine ⟨by omega, by omega, by omega, by omega, ?_, fun p hp => ?_, fun p q hp hq h => ?_, fun r hr => ?_, fun r q hr hq h => ?_, fun r hr => ?_⟩
  · rw [ringE_eq]
    split
    · exact outE_4lt (by rw [h4]; exact e4)
    · rw [h4]; exact e4
  · rw [rr p hp]; exact eR _ (pm_lt hc4 hp)
  · rw [rr p hp, rr q hq] at h
    exact pm_inj hc4 hp hq (eI _ _ (pm_lt hc4 hp) (pm_lt hc4 hq) h)
  · rw [rp r (by omega)]; exact eP r hr
  · rw [rp r (by omega), rp q (by omega)] at h; exact eJ r q hr hq h
  · rw [ringE_n4 (by omega), tirE]
    have ht := eT r hr
    split
    · rw [show 17 + r - 17 = r by omega, tir1]
      split
      · rw [E1f_hi (by omega) (by omega)]; exact ht
      · exact Nat.min_le_left _ _
    · rw [E1f_hi (by omega) (by omega)]; exact ht
