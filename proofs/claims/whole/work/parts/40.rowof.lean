theorem lay_any {n : Nat} {x : Int32} {M : Mm} (hn : 0 < n) (hn6 : n ≤ 6) (m16 : M 128 16 = nI n) : ∃ (y s : Int32) (M' : Mm), Lp (b_X12_layRow_12 128) 100000 (x, (0 : Int32), nI n - (1 : Int32), M) = some (y, s, M') ∧ ∀ o, o ≠ 137 → M' o = M o := by
  have key := Lp_inv (f := b_X12_layRow_12 128) (fun s => ∃ i, i ≤ n ∧ s.2.2.1 = pIx n i ∧ ∀ o, o ≠ 137 → s.2.2.2 o = M o) (fun s => (s.2.2.1 + 1).toNatClampNeg) (fun t => ∀ o, o ≠ 137 → t.2.2 o = M o) (fun s hs => by
    obtain ⟨i, hi, hp, hF⟩ := hs
    obtain ⟨y, z, p, Mi⟩ := s
    simp only at hp hF
    subst hp
    by_cases hin : i = n
    · subst hin
      exact Or.inr ⟨(y, z, Mi), by unfold b_X12_layRow_12; rw [if_pos (show pIx i i < 0 by unfold pIx; rw [if_neg (by omega)]; decide)], hF⟩
    · have hp : pIx n i = nI (n - 1 - i) := by unfold pIx; rw [if_pos (by omega)]
      have e1 : (5 : Int32) + pIx n i = nI (5 + (n - 1 - i)) := by rw [hp]; exact nI_add 5 _
      have hg : ib ((5 : Int32) + pIx n i) 23 := by rw [e1]; exact (ib_nI (by omega)).mpr (by omega)
      refine Or.inl ⟨_, by unfold b_X12_layRow_12; simp only [Lt_eq]; rw [if_neg (show ¬ pIx n i < 0 by rw [hp]; exact nI_lt0 (by omega)), Gd_t hg, pIx_s (by omega)], ⟨i + 1, by omega, rfl, fun o ho => (s2_ne ho).trans (hF o ho)⟩, ?_⟩
      show (pIx n (i + 1) + 1).toNatClampNeg < (pIx n i + 1).toNatClampNeg
      rw [pIx_1 (by omega) hn6, pIx_1 hi hn6]
      omega) 100000 (x, (0 : Int32), nI n - (1 : Int32), M) ⟨0, by omega, pIx_0 hn, fun _ _ => rfl⟩ (by
      show (nI n - (1 : Int32) + 1).toNatClampNeg < 100000
      rw [pIx_0 hn, pIx_1 (by omega) hn6]
      omega)
  obtain ⟨⟨y, s, M'⟩, g1, g2⟩ := key
  exact ⟨y, s, M', g1, g2⟩
theorem lay_nat {n a : Nat} {M : Mm} (hn : 0 < n) (hn6 : n ≤ 6) (ha : a < 2 ^ 31) (m16 : M 128 16 = nI n) : ∃ M' : Mm, Lp (b_X12_layRow_12 128) 100000 (nI a, (0 : Int32), nI n - (1 : Int32), M) = some (nI (a / 10 ^ n), nI (stF n a n), M') ∧ (∀ p, p < n → M' 137 (5 + p) = nI (dg a (n - 1 - p)) - 1) ∧ ∀ o, o ≠ 137 → M' o = M o := by
  have key := Lp_inv (f := b_X12_layRow_12 128) (fun s => ∃ i, i ≤ n ∧ s.1 = nI (a / 10 ^ i) ∧ s.2.1 = nI (stF n a i) ∧ s.2.2.1 = pIx n i ∧ (∀ p, p < n → n - 1 - p < i → s.2.2.2 137 (5 + p) = nI (dg a (n - 1 - p)) - 1) ∧ ∀ o, o ≠ 137 → s.2.2.2 o = M o) (fun s => (s.2.2.1 + 1).toNatClampNeg) (fun t => t.1 = nI (a / 10 ^ n) ∧ t.2.1 = nI (stF n a n) ∧ (∀ p, p < n → t.2.2 137 (5 + p) = nI (dg a (n - 1 - p)) - 1) ∧ ∀ o, o ≠ 137 → t.2.2 o = M o) (fun s hs => by
    obtain ⟨i, hi, hy, hz, hp, hR, hF⟩ := hs
    obtain ⟨y, z, p, Mi⟩ := s
    simp only at hy hz hp hR hF
    subst hp
    subst hy
    subst hz
    by_cases hin : i = n
    · subst hin
      exact Or.inr ⟨(nI (a / 10 ^ i), nI (stF i a i), Mi), by unfold b_X12_layRow_12; rw [if_pos (show pIx i i < 0 by unfold pIx; rw [if_neg (by omega)]; decide)], rfl, rfl, fun p hp => hR p hp (by omega), hF⟩
    · have hp : pIx n i = nI (n - 1 - i) := by unfold pIx; rw [if_pos (by omega)]
      have e1 : (5 : Int32) + pIx n i = nI (5 + (n - 1 - i)) := by rw [hp]; exact nI_add 5 _
      have hg : ib ((5 : Int32) + pIx n i) 23 := by rw [e1]; exact (ib_nI (by omega)).mpr (by omega)
      have hai : a / 10 ^ i < 2 ^ 31 := Nat.lt_of_le_of_lt (Nat.div_le_self _ _) ha
      have hd := dg_lt a i
      have f16 : Mi 128 16 = nI n := by rw [hF 128 (by omega)]; exact m16
      have hset : (nI (stF n a i) ||| (if (f_X12_isBell 128 (nI (dg a i) - (1 : Int32)) Mi) = 0 then (0 : Int32) else (sl (1 : Int32) (nI (dg a i) - (1 : Int32))))) = nI (stF n a (i + 1)) := by
        show _ = nI (stF n a i ||| (if 1 ≤ dg a i ∧ dg a i ≤ n then 2 ^ (dg a i - 1) else 0))
        by_cases h1 : 1 ≤ dg a i
        · rw [show nI (dg a i) - (1 : Int32) = nI (dg a i - 1) from pk_sub (b := 1) h1]
          by_cases h2 : dg a i ≤ n
          · rw [isBell_1 hn6 (by omega) f16, if_neg one_ne, if_pos ⟨h1, h2⟩]
            rw [show sl (1 : Int32) (nI (dg a i - 1)) = nI (2 ^ (dg a i - 1)) by
              have := sl_nI (a := 1) (k := dg a i - 1) (by omega) (by rw [Nat.one_mul]; exact Nat.pow_lt_pow_right (by omega) (by omega))
              rw [Nat.one_mul] at this
              exact this, nI_or]
          · rcases bell_cases hn6 (nI (dg a i - 1)) with ⟨r, hr, e⟩ | ⟨-, q2⟩
            · have := nI_inj (by omega) (by omega) e
              omega
            · rw [q2 Mi f16, if_pos rfl, if_neg (by omega), show (0 : Int32) = nI 0 from rfl, nI_or]
        · rw [show dg a i = 0 by omega]
          have : f_X12_isBell 128 (nI 0 - (1 : Int32)) Mi = 0 := by
            unfold f_X12_isBell f_X12_in
            rw [if_pos (by decide)]
          rw [this, if_pos rfl, if_neg (by omega), show (0 : Int32) = nI 0 from rfl, nI_or]
      refine Or.inl ⟨(nI (a / 10 ^ (i + 1)), nI (stF n a (i + 1)), pIx n (i + 1), st2 Mi 137 (5 + (n - 1 - i)) (nI (dg a i) - 1)), ?_, ⟨i + 1, by omega, rfl, rfl, rfl, fun p hp hp2 => ?_, fun o ho => (s2_ne ho).trans (hF o ho)⟩, ?_⟩
      · unfold b_X12_layRow_12
        simp only [Lt_eq]
        rw [if_neg (show ¬ pIx n i < 0 by rw [hp]; exact nI_lt0 (by omega)), Gd_t hg, e1, ix_nI (by omega), pIx_s (by omega), show rm (nI (a / 10 ^ i)) (10 : Int32) = nI (dg a i) from rm_nI (b := 10) hai (by omega) (by omega), hset, show nI (a / 10 ^ i) / (10 : Int32) = nI (a / 10 ^ i / 10) from pk_div (d := 10) hai (by omega) (by omega), Nat.div_div_eq_div_mul, ← Nat.pow_succ]
      · show st2 Mi 137 (5 + (n - 1 - i)) (nI (dg a i) - 1) 137 (5 + p) = _
        rw [s2_at]
        by_cases e : n - 1 - p = i
        · rw [if_pos ⟨rfl, by omega⟩, e]
        · rw [if_neg (by omega)]
          exact hR p hp (by omega)
      · show (pIx n (i + 1) + 1).toNatClampNeg < (pIx n i + 1).toNatClampNeg
        rw [pIx_1 (by omega) hn6, pIx_1 hi hn6]
        omega) 100000 (nI a, (0 : Int32), nI n - (1 : Int32), M) ⟨0, by omega, by show nI a = nI (a / 10 ^ 0); rw [Nat.pow_zero, Nat.div_one], rfl, pIx_0 hn, fun p hp h => absurd h (by omega), fun _ _ => rfl⟩ (by
      show (nI n - (1 : Int32) + 1).toNatClampNeg < 100000
      rw [pIx_0 hn, pIx_1 (by omega) hn6]
      omega)
  obtain ⟨⟨y, s, M'⟩, g1, g2, g3, g4, g5⟩ := key
  simp only at g2 g3 g4 g5
  subst g2
  subst g3
  exact ⟨M', g1, g4, g5⟩
/-- onto means one to one -/
theorem inj_of_onto {n : Nat} {f : Nat → Nat} (h : ∀ b, b < n → ∃ j, j < n ∧ f j = b) : (∀ j, j < n → f j < n) ∧ ∀ i j, i < n → j < n → f i = f j → i = j := by
  have hg : ∃ g : Nat → Nat, ∀ b, b < n → g b < n ∧ f (g b) = b := by
    refine ⟨fun b => if hb : b < n then (h b hb).choose else 0, fun b hb => ?_⟩
    show (if hb : b < n then (h b hb).choose else 0) < n ∧ f (if hb : b < n then (h b hb).choose else 0) = b
    rw [dif_pos hb]
    exact (h b hb).choose_spec
  obtain ⟨g, hg⟩ := hg
  have hs := surj n g (fun b hb => (hg b hb).1) (fun b c hb hc e => by rw [← (hg b hb).2, ← (hg c hc).2, e])
  refine ⟨fun j hj => ?_, fun i j hi hj e => ?_⟩
  · obtain ⟨b, hb, e⟩ := hs j hj
    rw [← e, (hg b hb).2]; exact hb
  · obtain ⟨b, hb, e1⟩ := hs i hi
    obtain ⟨c, hc, e2⟩ := hs j hj
    rw [← e1, ← e2, (hg b hb).2, (hg c hc).2] at e
    rw [← e1, ← e2, e]
theorem stF_full {n a : Nat} (hn : n ≤ 6) : stF n a n = 2 ^ n - 1 ↔ ∀ i, i < n → gdD n a i := by
  constructor
  · intro h
    have hb : ∀ b, b < n → ∃ j, j < n ∧ dg a j - 1 = b := fun b hb => by
      have ht : (stF n a n).testBit b = true := by
        rw [h, Nat.testBit_two_pow_sub_one]
        exact decide_eq_true hb
      obtain ⟨j, j1, j2, j3⟩ := (stF_bit n).mp ht
      exact ⟨j, j1, by omega⟩
    have hpos : ∀ b, b < n → ∃ j, j < n ∧ (if 1 ≤ dg a j then dg a j - 1 else n) = b := fun b hb => by
      have ht : (stF n a n).testBit b = true := by
        rw [h, Nat.testBit_two_pow_sub_one]
        exact decide_eq_true hb
      obtain ⟨j, j1, j2, j3⟩ := (stF_bit n).mp ht
      exact ⟨j, j1, by rw [if_pos (by omega)]; omega⟩
    obtain ⟨k1, k2⟩ := inj_of_onto hpos
    intro i hi
    have q1 := k1 i hi
    have p1 : 1 ≤ dg a i := by
      by_cases e : 1 ≤ dg a i
      · exact e
      · rw [if_neg e] at q1; omega
    rw [if_pos p1] at q1
    refine ⟨p1, by omega, ?_⟩
    by_cases e : (stF n a i).testBit (dg a i - 1) = true
    · obtain ⟨j, j1, j2, j3⟩ := (stF_bit i).mp e
      have := k2 j i (by omega) hi (by rw [if_pos (by omega), if_pos p1]; omega)
      omega
    · simpa using e
  · intro h
    apply Nat.eq_of_testBit_eq
    intro b
    rw [Nat.testBit_two_pow_sub_one]
    by_cases hb : b < n
    · rw [decide_eq_true hb]
      have hj : ∀ i j, i < n → j < n → i < j → dg a i - 1 = dg a j - 1 → False := fun i j hi hj hij e => by
        have h1 := h i hi
        have h2 := h j hj
        have : (stF n a j).testBit (dg a j - 1) = true := (stF_bit j).mpr ⟨i, hij, h1.2.1, by have := h1.1; have := h2.1; omega⟩
        rw [h2.2.2] at this
        exact absurd this (by simp)
      obtain ⟨j, j1, j2⟩ := surj n (fun i => dg a i - 1) (fun p hp => by have := h p hp; have := this.1; have := (h p hp).2.1; show dg a p - 1 < n; omega) (fun p q hp hq e => by
        by_cases e1 : p < q
        · exact absurd e (fun e => hj p q hp hq e1 e)
        · by_cases e2 : q < p
          · exact absurd e.symm (fun e => hj q p hq hp e2 e)
          · omega) b hb
      have j2' : dg a j - 1 = b := j2
      exact (stF_bit n).mpr ⟨j, j1, (h j j1).2.1, by have := (h j j1).1; omega⟩
    · rw [decide_eq_false hb]
      by_cases e : (stF n a n).testBit b = true
      · obtain ⟨j, j1, j2, j3⟩ := (stF_bit n).mp e
        omega
      · simpa using e
/-- figures tell a row in both, or in neither -/
theorem rowOf_cases {n : Nat} (hn6 : n ≤ 6) (x : Int32) : (∃ v, 0 < n ∧ prm n v ∧ x = nI (figs n v) ∧ f_X5_fromFigures x (nI n) = some (nI (enc n v)) ∧ ∀ M : Mm, M 128 16 = nI n → ∃ M', f_X12_layRow 128 x M = some (1, M') ∧ (∀ p, p < n → M' 137 (5 + p) = nI (v p)) ∧ ∀ o, o ≠ 137 → M' o = M o) ∨ (f_X5_fromFigures x (nI n) = some (-1) ∧ ∀ M : Mm, M 128 16 = nI n → ∃ M', f_X12_layRow 128 x M = some (0, M') ∧ ∀ o, o ≠ 137 → M' o = M o) := by
  by_cases hn0 : n = 0
  · subst hn0
    refine Or.inr ⟨?_, fun M m16 => ?_⟩
    · unfold f_X5_fromFigures
      simp only [Lt_eq]
      have he : b_X5_fromFigures_12 (nI 0) ((0 : Int32), (0 : Int32), x, nI 0 - (1 : Int32)) = some (.inr (.inr ((0 : Int32), x))) := by
        unfold b_X5_fromFigures_12
        rw [if_pos (by show nI 0 - (1 : Int32) < 0; decide)]
      rw [BdS_LpR (s0 := ((0 : Int32), (0 : Int32), x, nI 0 - (1 : Int32))) (fun _ => ((0 : Int32), (0 : Int32), x, nI 0 - (1 : Int32))) 0 ((0 : Int32), x) rfl (fun i hi => absurd hi (by omega)) he (by omega), if_pos (by decide)]
    · unfold f_X12_layRow
      simp only [Lt_eq]
      rw [m16]
      have he : b_X12_layRow_12 128 (x, (0 : Int32), nI 0 - (1 : Int32), M) = some (.inr (x, (0 : Int32), M)) := by
        unfold b_X12_layRow_12
        rw [if_pos (by show nI 0 - (1 : Int32) < 0; decide)]
      rw [Bd_Lp (s0 := (x, (0 : Int32), nI 0 - (1 : Int32), M)) (fun _ => (x, (0 : Int32), nI 0 - (1 : Int32), M)) 0 (x, (0 : Int32), M) rfl (fun i hi => absurd hi (by omega)) he (by omega), isTower_0 m16, if_pos rfl]
      exact ⟨M, rfl, fun _ _ => rfl⟩
  · have hn : 0 < n := by omega
    rcases i_cases x with hx | ⟨a, ha, rfl⟩
    · refine Or.inr ⟨?_, fun M m16 => ?_⟩
      · unfold f_X5_fromFigures
        simp only [Lt_eq]
        have he : b_X5_fromFigures_12 (nI n) ((0 : Int32), (0 : Int32), x, nI n - (1 : Int32)) = some (.inr (.inl (-1 : Int32))) := by
          unfold b_X5_fromFigures_12
          simp only [Lt_eq]
          rw [if_neg (show ¬ nI n - (1 : Int32) < 0 by rw [show nI n - (1 : Int32) = nI (n - 1) from pk_sub (b := 1) (by omega)]; exact nI_lt0 (by omega)), if_pos (rm10neg hx)]
        rw [BdS_LpL (s0 := ((0 : Int32), (0 : Int32), x, nI n - (1 : Int32))) (fun _ => ((0 : Int32), (0 : Int32), x, nI n - (1 : Int32))) 0 (-1 : Int32) rfl (fun i hi => absurd hi (by omega)) he (by omega)]
      · obtain ⟨y, s, M', g1, g2⟩ := lay_any (x := x) hn hn6 m16
        unfold f_X12_layRow
        simp only [Lt_eq]
        rw [m16, g1, Bd_some]
        dsimp only
        refine ⟨M', ?_, g2⟩
        have hle : x ≤ 0 := by
          have h1 := Int32.lt_iff_toInt_lt.mp hx
          exact Int32.le_iff_toInt_le.mpr (by omega)
        rw [isTower_1 (n := n) (by rw [g2 128 (by omega)]; exact m16) hn hn6, if_neg one_ne, if_pos hle]
    · have e0 : ((0 : Int32), (0 : Int32), nI a, nI n - (1 : Int32)) = (nI (enc n (rwF n a 0)), nI (stF n a 0), nI (a / 10 ^ 0), pIx n 0) := by
        rw [pIx_0 hn, Nat.pow_zero, Nat.div_one, show rwF n a 0 = fun _ => 0 by funext p; unfold rwF; rw [if_neg (by omega)], enc_zero]
        rfl
      rcases firstW (gdD n a) (fun i => Classical.em _) n with hall | ⟨i0, i1, i2, i3⟩
      · have hfr : f_X5_fromFigures (nI a) (nI n) = if a / 10 ^ n = 0 then some (nI (enc n (rwF n a n))) else some (-1) := by
          unfold f_X5_fromFigures
          simp only [Lt_eq]
          have he : b_X5_fromFigures_12 (nI n) (nI (enc n (rwF n a n)), nI (stF n a n), nI (a / 10 ^ n), pIx n n) = some (.inr (.inr (nI (enc n (rwF n a n)), nI (a / 10 ^ n)))) := by
            unfold b_X5_fromFigures_12
            rw [if_pos (show pIx n n < 0 by unfold pIx; rw [if_neg (by omega)]; decide)]
          rw [BdS_LpR (s0 := ((0 : Int32), (0 : Int32), nI a, nI n - (1 : Int32))) (fun i => (nI (enc n (rwF n a i)), nI (stF n a i), nI (a / 10 ^ i), pIx n i)) n _ e0 (fun i hi => ff_step hn6 ha hi (fun j hj => hall j (by omega)) (hall i hi)) he (by omega), if_neg (nI_nle hn (by omega))]
          have hlt : a / 10 ^ n < 2 ^ 31 := Nat.lt_of_le_of_lt (Nat.div_le_self _ _) ha
          by_cases e : a / 10 ^ n = 0
          · rw [if_pos e, e, if_pos (show nI 0 = 0 from rfl)]
          · rw [if_neg e, if_neg (nI_ne0 (Nat.pos_of_ne_zero e) hlt)]
        have hr : ∀ p, p < n → rwF n a n p = dg a (n - 1 - p) - 1 := fun p hp => by unfold rwF; rw [if_pos (by omega)]
        have hfull := (stF_full (a := a) hn6).mpr hall
        have hd0 := (hall 0 hn).1
        have ha1 : 1 ≤ a := by
          by_cases e : a = 0
          · rw [e] at hd0; unfold dg at hd0; simp at hd0
          · omega
        by_cases e : a / 10 ^ n = 0
        · refine Or.inl ⟨rwF n a n, hn, ⟨fun p hp => ?_, fun p q hp hq h => ?_⟩, ?_, by rw [hfr, if_pos e], fun M m16 => ?_⟩
          · rw [hr p hp]
            have := hall (n - 1 - p) (by omega)
            have := this.1
            have := (hall (n - 1 - p) (by omega)).2.1
            omega
          · rw [hr p hp, hr q hq] at h
            have hj : ∀ i j, i < n → j < n → i < j → dg a i - 1 = dg a j - 1 → False := fun i j hi hj hij e => by
              have h1 := hall i hi
              have h2 := hall j hj
              have : (stF n a j).testBit (dg a j - 1) = true := (stF_bit j).mpr ⟨i, hij, h1.2.1, by have := h1.1; have := h2.1; omega⟩
              rw [h2.2.2] at this
              exact absurd this (by simp)
            by_cases e1 : n - 1 - p < n - 1 - q
            · exact absurd h (fun h => hj _ _ (by omega) (by omega) e1 h)
            · by_cases e2 : n - 1 - q < n - 1 - p
              · exact absurd h.symm (fun h => hj _ _ (by omega) (by omega) e2 h)
              · omega
          · have hlt : a < 10 ^ n := by
              have hp10 : 0 < 10 ^ n := Nat.pow_pos (by omega)
              exact (Nat.div_eq_zero_iff_lt hp10).mp e
            rw [figs_congr n (rwF n a n) (fun p => dg a (n - 1 - p) - 1) hr, figs_dg n a hlt (fun i hi => (hall i hi).1)]
          · obtain ⟨M', g1, g2, g3⟩ := lay_nat hn hn6 ha m16
            unfold f_X12_layRow
            simp only [Lt_eq]
            have f16 : M' 128 16 = nI n := by rw [g3 128 (by omega)]; exact m16
            rw [m16, g1, Bd_some]
            dsimp only
            refine ⟨M', ?_, fun p hp => ?_, g3⟩
            · rw [isTower_1 f16 hn hn6, if_neg one_ne, if_neg (nI_nle ha1 ha), e, if_pos (show nI 0 = 0 from rfl), if_pos (show nI (stF n a n) = (sl (1 : Int32) (M' 128 16)) - (1 : Int32) by rw [f16, all_spec n (by omega), hfull])]
            · rw [g2 p hp, hr p hp]
              exact pk_sub (b := 1) (hall (n - 1 - p) (by omega)).1
        · refine Or.inr ⟨by rw [hfr, if_neg e], fun M m16 => ?_⟩
          obtain ⟨M', g1, g2, g3⟩ := lay_nat hn hn6 ha m16
          have hlt : a / 10 ^ n < 2 ^ 31 := Nat.lt_of_le_of_lt (Nat.div_le_self _ _) ha
          unfold f_X12_layRow
          simp only [Lt_eq]
          rw [m16, g1, Bd_some]
          dsimp only
          refine ⟨M', ?_, g3⟩
          rw [isTower_1 (n := n) (by rw [g3 128 (by omega)]; exact m16) hn hn6, if_neg one_ne, if_neg (nI_nle ha1 ha), if_neg (nI_ne0 (Nat.pos_of_ne_zero e) hlt)]
      · refine Or.inr ⟨?_, fun M m16 => ?_⟩
        · unfold f_X5_fromFigures
          simp only [Lt_eq]
          rw [BdS_LpL (s0 := ((0 : Int32), (0 : Int32), nI a, nI n - (1 : Int32))) (fun i => (nI (enc n (rwF n a i)), nI (stF n a i), nI (a / 10 ^ i), pIx n i)) i0 (-1 : Int32) e0 (fun i hi => ff_step hn6 ha (by omega) (fun j hj => i3 j (by omega)) (i3 i hi)) (ff_stop hn6 ha i1 i2) (by omega)]
        · obtain ⟨M', g1, g2, g3⟩ := lay_nat hn hn6 ha m16
          unfold f_X12_layRow
          simp only [Lt_eq]
          have f16 : M' 128 16 = nI n := by rw [g3 128 (by omega)]; exact m16
          rw [m16, g1, Bd_some]
          dsimp only
          refine ⟨M', ?_, g3⟩
          rw [isTower_1 f16 hn hn6, if_neg one_ne]
          have hst := stF_lt (a := a) hn6 n
          have h2n := pow_ns hn6
          have hne : ¬ nI (stF n a n) = nI (2 ^ n - 1) := fun q => i2 ((stF_full hn6).mp (nI_inj (by omega) (by omega) q) i0 i1)
          by_cases c1 : nI a ≤ 0
          · rw [if_pos c1]
          · rw [if_neg c1]
            by_cases c2 : nI (a / 10 ^ n) = 0
            · rw [if_pos c2, if_neg (show ¬ nI (stF n a n) = (sl (1 : Int32) (M' 128 16)) - (1 : Int32) by rw [f16, all_spec n (by omega)]; exact hne)]
            · rw [if_neg c2]
