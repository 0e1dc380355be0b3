/-! reading: blanks, figures, numbers, in both -/
def SKP (len : Nat) (tx : Nat → Nat) (p q : Nat) : Prop := p ≤ q ∧ q ≤ len ∧ (∀ i, p ≤ i → i < q → tx i = 32) ∧ (q < len → ¬ tx q = 32)
def DGP (len : Nat) (tx : Nat → Nat) (q e : Nat) : Prop := q ≤ e ∧ e ≤ len ∧ (∀ i, q ≤ i → i < e → 48 ≤ tx i ∧ tx i ≤ 57) ∧ (e < len → ¬ (48 ≤ tx e ∧ tx e ≤ 57))
theorem skp_ex {len : Nat} {tx : Nat → Nat} {p : Nat} (h : p ≤ len) : ∃ q, SKP len tx p q := by
  rcases firstW (fun i => tx (p + i) = 32) (fun i => Classical.em _) (len - p) with hall | ⟨i0, z1, z2, z3⟩
  · exact ⟨len, h, Nat.le_refl _, fun i h1 h2 => by
      have := hall (i - p) (by omega)
      rw [show p + (i - p) = i by omega] at this
      exact this, fun hh => absurd hh (by omega)⟩
  · exact ⟨p + i0, by omega, by omega, fun i h1 h2 => by
      have := z3 (i - p) (by omega)
      rw [show p + (i - p) = i by omega] at this
      exact this, fun _ => z2⟩
theorem dgp_ex {len : Nat} {tx : Nat → Nat} {p : Nat} (h : p ≤ len) : ∃ e, DGP len tx p e := by
  rcases firstW (fun i => 48 ≤ tx (p + i) ∧ tx (p + i) ≤ 57) (fun i => Classical.em _) (len - p) with hall | ⟨i0, z1, z2, z3⟩
  · exact ⟨len, h, Nat.le_refl _, fun i h1 h2 => by
      have := hall (i - p) (by omega)
      rw [show p + (i - p) = i by omega] at this
      exact this, fun hh => absurd hh (by omega)⟩
  · exact ⟨p + i0, by omega, by omega, fun i h1 h2 => by
      have := z3 (i - p) (by omega)
      rw [show p + (i - p) = i by omega] at this
      exact this, fun _ => z2⟩
/-- the value of i figures from q on: of three at most -/
def vlF (tx : Nat → Nat) (q : Nat) : Nat → Nat
  | 0 => 0
  | i + 1 => if i < 3 then vlF tx q i * 10 + (tx (q + i) - 48) else vlF tx q i
theorem vlF_lt {tx : Nat → Nat} {q : Nat} : ∀ i, (∀ j, j < i → 48 ≤ tx (q + j) ∧ tx (q + j) ≤ 57) → vlF tx q i < 10 ^ (min i 3)
  | 0, _ => by show 0 < _; decide
  | i + 1, h => by
    have ih := vlF_lt i (fun j hj => h j (by omega))
    have hi := h i (by omega)
    show (if i < 3 then vlF tx q i * 10 + (tx (q + i) - 48) else vlF tx q i) < _
    by_cases c : i < 3
    · rw [if_pos c, show min (i + 1) 3 = i + 1 by omega, Nat.pow_succ]
      rw [show min i 3 = i by omega] at ih
      omega
    · rw [if_neg c, show min (i + 1) 3 = 3 by omega]
      rw [show min i 3 = 3 by omega] at ih
      exact ih
theorem vlF_b {tx : Nat → Nat} {q i : Nat} (h : ∀ j, j < i → 48 ≤ tx (q + j) ∧ tx (q + j) ≤ 57) : vlF tx q i < 1000 := by
  have h1 := vlF_lt i h
  have h2 : 10 ^ (min i 3) ≤ 10 ^ 3 := Nat.pow_le_pow_right (by omega) (by omega)
  omega
def CTx (len : Nat) (tx : Nat → Nat) (M : Mm) : Prop := len ≤ 240 ∧ M 35 0 = nI len ∧ ∀ i, i < len → tx i < 256 ∧ M 36 i = nI (tx i)
def RTx (len : Nat) (tx : Nat → Nat) (M : Mm) : Prop := len ≤ 240 ∧ M 128 0 = nI len ∧ ∀ i, i < len → tx i < 256 ∧ M 129 i = nI (tx i)
theorem here_in {len p : Nat} {tx : Nat → Nat} {M : Mm} (h : CTx len tx M) (h4 : M 35 3 = nI p) (hp : p < len) : f_X7_letterHere 35 M = some (nI (tx p)) := by
  obtain ⟨h1, h2, h3⟩ := h
  unfold f_X7_letterHere
  rw [h4, h2, if_neg (nI_lt0 (by omega)), if_neg (nI_ge hp (by omega)), if_neg (show ¬ (240 : Int32) ≤ nI p from nI_ge (b := 240) (by omega) (by omega)), Gd_t ((ib_nI (by omega)).mpr (by omega)), ix_nI (by omega), (h3 p hp).2]
theorem here_end {len : Nat} {tx : Nat → Nat} {M : Mm} (h : CTx len tx M) (h4 : M 35 3 = nI len) : f_X7_letterHere 35 M = some (-1 : Int32) := by
  obtain ⟨h1, h2, h3⟩ := h
  unfold f_X7_letterHere
  rw [h4, h2, if_neg (nI_lt0 (by omega)), if_pos (nI_le (Nat.le_refl _) (by omega))]
theorem CTx_c {len : Nat} {tx : Nat → Nat} {M M' : Mm} (h : ∀ o j, (o = 35 ∧ j = 0) ∨ o = 36 → M' o j = M o j) (c : CTx len tx M) : CTx len tx M' :=
  ⟨c.1, (h _ _ (by omega)).trans c.2.1, fun i hi => ⟨(c.2.2 i hi).1, (h _ _ (by omega)).trans (c.2.2 i hi).2⟩⟩
theorem RTx_c {len : Nat} {tx : Nat → Nat} {M M' : Mm} (h : ∀ o j, (o = 128 ∧ j = 0) ∨ o = 129 → M' o j = M o j) (c : RTx len tx M) : RTx len tx M' :=
  ⟨c.1, (h _ _ (by omega)).trans c.2.1, fun i hi => ⟨(c.2.2 i hi).1, (h _ _ (by omega)).trans (c.2.2 i hi).2⟩⟩
theorem skipC {len p q : Nat} {tx : Nat → Nat} {M : Mm} (h : CTx len tx M) (h4 : M 35 3 = nI p) (hq : SKP len tx p q) : ∃ M', f_X7_skipBlanks 35 M = some M' ∧ M' 35 3 = nI q ∧ ∀ o j, ¬ (o = 35 ∧ j = 3) → M' o j = M o j := by
  obtain ⟨q1, q2, q3, q4⟩ := hq
  have hl := h.1
  have key := Lp_inv (f := b_X7_skipBlanks_0 35) (fun s => ∃ i, p ≤ i ∧ i ≤ q ∧ s 35 3 = nI i ∧ ∀ o j, ¬ (o = 35 ∧ j = 3) → s o j = M o j) (fun s => 1000 - (s 35 3).toNatClampNeg) (fun s => s 35 3 = nI q ∧ ∀ o j, ¬ (o = 35 ∧ j = 3) → s o j = M o j) (fun s hs => by
    obtain ⟨i, i1, i2, i3, hF⟩ := hs
    have hc : CTx len tx s := CTx_c (fun o j g => hF o j (by omega)) h
    by_cases hin : i = q
    · subst hin
      refine Or.inr ⟨s, ?_, i3, hF⟩
      unfold b_X7_skipBlanks_0
      by_cases hl2 : i = len
      · rw [if_pos (show s 35 0 ≤ s 35 3 by rw [hc.2.1, i3, hl2]; exact nI_le (Nat.le_refl _) (by omega))]
      · have ht := hc.2.2 i (by omega)
        have hne := q4 (by omega)
        rw [if_neg (show ¬ s 35 0 ≤ s 35 3 by rw [hc.2.1, i3]; exact nI_ge (by omega) (by omega)), here_in hc i3 (by omega), Bd_some, if_neg (show ¬ nI (tx i) = (32 : Int32) from fun z => hne (nI_inj (b := 32) (by omega) (by omega) z))]
    · have hb := q3 i i1 (by omega)
      refine Or.inl ⟨st2 s 35 3 (nI (i + 1)), ?_, ⟨i + 1, by omega, by omega, s2_eq, fun o j g => by rw [s2_at, if_neg g, hF o j g]⟩, ?_⟩
      · unfold b_X7_skipBlanks_0
        simp only [Lt_eq]
        rw [if_neg (show ¬ s 35 0 ≤ s 35 3 by rw [hc.2.1, i3]; exact nI_ge (by omega) (by omega)), here_in hc i3 (by omega), Bd_some, hb, if_pos (show nI 32 = (32 : Int32) from rfl), i3, nI_1]
      · rw [s2_eq, i3, nI_clamp (by omega), nI_clamp (by omega)]
        omega) 100000 M ⟨p, Nat.le_refl _, q1, h4, fun _ _ _ => rfl⟩ (by omega)
  obtain ⟨M', k1, k2, k3⟩ := key
  unfold f_X7_skipBlanks
  rw [k1, Bd_some]
  exact ⟨M', rfl, k2, k3⟩
/-- Text.readNumber's loop over figures -/
theorem figC {len q e : Nat} {tx : Nat → Nat} {M : Mm} (h : CTx len tx M) (h4 : M 35 3 = nI q) (h5 : M 35 4 = nI q) (he : DGP len tx q e) : ∃ M', Lp (b_X7_readNumber_14 35) 100000 ((0 : Int32), M) = some (nI (vlF tx q (e - q)), M') ∧ M' 35 3 = nI e ∧ ∀ o j, ¬ (o = 35 ∧ j = 3) → M' o j = M o j := by
  obtain ⟨e1, e2, e3, e4⟩ := he
  have hl := h.1
  have key := Lp_inv (f := b_X7_readNumber_14 35) (fun s => ∃ i, q ≤ i ∧ i ≤ e ∧ s.1 = nI (vlF tx q (i - q)) ∧ s.2 35 3 = nI i ∧ ∀ o j, ¬ (o = 35 ∧ j = 3) → s.2 o j = M o j) (fun s => 1000 - (s.2 35 3).toNatClampNeg) (fun r => r.1 = nI (vlF tx q (e - q)) ∧ r.2 35 3 = nI e ∧ ∀ o j, ¬ (o = 35 ∧ j = 3) → r.2 o j = M o j) (fun s hs => by
    obtain ⟨i, i1, i2, i0, i3, hF⟩ := hs
    obtain ⟨v, Mi⟩ := s
    simp only at i0 i3 hF
    subst i0
    have hc : CTx len tx Mi := CTx_c (fun o j g => hF o j (by omega)) h
    have h5i : Mi 35 4 = nI q := by rw [hF 35 4 (by omega)]; exact h5
    by_cases hin : i = e
    · subst hin
      refine Or.inr ⟨(nI (vlF tx q (i - q)), Mi), ?_, rfl, i3, hF⟩
      unfold b_X7_readNumber_14
      by_cases hl2 : i = len
      · rw [if_pos (show Mi 35 0 ≤ Mi 35 3 by rw [hc.2.1, i3, hl2]; exact nI_le (Nat.le_refl _) (by omega))]
      · have ht := hc.2.2 i (by omega)
        have hne := e4 (by omega)
        have hfz : f_X7_isFigure (nI (tx i)) = 0 := by
          unfold f_X7_isFigure
          by_cases c : tx i < 48
          · rw [if_pos (show nI (tx i) < (48 : Int32) from nI_lt (b := 48) c (by omega))]
          · rw [if_neg (show ¬ nI (tx i) < (48 : Int32) from nI_nlt (b := 48) (by omega) (by omega)), if_pos (show (57 : Int32) < nI (tx i) from nI_lt (a := 57) (by omega) (by omega))]
        rw [if_neg (show ¬ Mi 35 0 ≤ Mi 35 3 by rw [hc.2.1, i3]; exact nI_ge (by omega) (by omega)), here_in hc i3 (by omega), Bd_some, hfz, if_pos rfl]
    · have hb := e3 i i1 (by omega)
      have hf1 : f_X7_isFigure (nI (tx i)) = 1 := by
        unfold f_X7_isFigure
        rw [if_neg (show ¬ nI (tx i) < (48 : Int32) from nI_nlt (b := 48) (by omega) (by omega)), if_neg (show ¬ (57 : Int32) < nI (tx i) from nI_nlt (a := 57) (by omega) (by omega))]
      have hvb := vlF_b (tx := tx) (q := q) (i := i - q) (fun j hj => e3 (q + j) (by omega) (by omega))
      have hvs : vlF tx q (i + 1 - q) = if i - q < 3 then vlF tx q (i - q) * 10 + (tx i - 48) else vlF tx q (i - q) := by
        rw [show i + 1 - q = (i - q) + 1 by omega]
        show (if i - q < 3 then vlF tx q (i - q) * 10 + (tx (q + (i - q)) - 48) else vlF tx q (i - q)) = _
        rw [show q + (i - q) = i by omega]
      refine Or.inl ⟨(nI (vlF tx q (i + 1 - q)), st2 Mi 35 3 (nI (i + 1))), ?_, ⟨i + 1, by omega, by omega, rfl, by show st2 Mi 35 3 (nI (i + 1)) 35 3 = _; rw [s2_eq], fun o j g => by show st2 Mi 35 3 (nI (i + 1)) o j = _; rw [s2_at, if_neg g, hF o j g]⟩, ?_⟩
      · unfold b_X7_readNumber_14
        simp only [Lt_eq]
        rw [if_neg (show ¬ Mi 35 0 ≤ Mi 35 3 by rw [hc.2.1, i3]; exact nI_ge (by omega) (by omega)), here_in hc i3 (by omega), Bd_some, hf1, if_neg one_ne, Bd_some, hvs]
        have hsub : Mi 35 3 - Mi 35 4 = nI (i - q) := by rw [i3, h5i, pk_sub i1]
        by_cases c : i - q < 3
        · rw [if_neg (show ¬ (3 : Int32) ≤ Mi 35 3 - Mi 35 4 by rw [hsub]; exact nI_ge (b := 3) c (by omega)), Bd_some, if_pos c, i3, nI_1, show nI (vlF tx q (i - q)) * (10 : Int32) = nI (vlF tx q (i - q) * 10) from pk_mul _ 10, nI_add, show nI (vlF tx q (i - q) * 10 + tx i) - (48 : Int32) = nI (vlF tx q (i - q) * 10 + tx i - 48) from pk_sub (b := 48) (by omega), show vlF tx q (i - q) * 10 + tx i - 48 = vlF tx q (i - q) * 10 + (tx i - 48) by omega]
        · rw [if_pos (show (3 : Int32) ≤ Mi 35 3 - Mi 35 4 by rw [hsub]; exact nI_le (a := 3) (by omega) (by omega)), Bd_some, if_neg c, i3, nI_1]
      · show 1000 - (st2 Mi 35 3 (nI (i + 1)) 35 3).toNatClampNeg < 1000 - (Mi 35 3).toNatClampNeg
        rw [s2_eq, i3, nI_clamp (by omega), nI_clamp (by omega)]
        omega) 100000 ((0 : Int32), M) ⟨q, Nat.le_refl _, e1, by rw [Nat.sub_self]; rfl, h4, fun _ _ _ => rfl⟩ (by omega)
  obtain ⟨⟨v, M'⟩, k1, k2, k3, k4⟩ := key
  simp only at k2 k3 k4
  subst k2
  exact ⟨M', k1, k3, k4⟩
/-- the reference's token -/
theorem tokM {len p q : Nat} {tx : Nat → Nat} {M : Mm} (h : RTx len tx M) (h2 : M 128 2 = nI p) (hq : SKP len tx p q) : ∃ M', f_X12_nextToken 128 M = some M' ∧ M' 128 3 = nI q ∧ (q = len → M' 128 4 = (-2 : Int32) ∧ M' 128 2 = nI q) ∧ (q < len → ¬ (48 ≤ tx q ∧ tx q ≤ 57) → M' 128 4 = nI (tx q) ∧ M' 128 2 = nI (q + 1)) ∧ (∀ e, q < e → DGP len tx q e → M' 128 4 = (-1 : Int32) ∧ M' 128 2 = nI e ∧ M' 128 5 = nI (vlF tx q (e - q)) ∧ M' 128 6 = nI (e - q)) ∧ ∀ o j, ¬ (o = 128 ∧ 2 ≤ j ∧ j ≤ 6) → M' o j = M o j := by
  obtain ⟨q1, q2, q3, q4⟩ := hq
  have hl := h.1
  have key := Lp_inv (f := b_X12_nextToken_0 128) (fun s => ∃ i, p ≤ i ∧ i ≤ q ∧ s 128 2 = nI i ∧ ∀ o j, ¬ (o = 128 ∧ j = 2) → s o j = M o j) (fun s => 1000 - (s 128 2).toNatClampNeg) (fun s => s 128 2 = nI q ∧ ∀ o j, ¬ (o = 128 ∧ j = 2) → s o j = M o j) (fun s hs => by
    obtain ⟨i, i1, i2, i3, hF⟩ := hs
    have hc : RTx len tx s := RTx_c (fun o j g => hF o j (by omega)) h
    by_cases hin : i = q
    · subst hin
      refine Or.inr ⟨s, ?_, i3, hF⟩
      unfold b_X12_nextToken_0
      by_cases hl2 : i = len
      · rw [if_pos (show s 128 0 ≤ s 128 2 by rw [hc.2.1, i3, hl2]; exact nI_le (Nat.le_refl _) (by omega))]
      · have ht := hc.2.2 i (by omega)
        have hne := q4 (by omega)
        rw [if_neg (show ¬ s 128 0 ≤ s 128 2 by rw [hc.2.1, i3]; exact nI_ge (by omega) (by omega)), Gd_t (show ib (s 128 2) 240 by rw [i3]; exact (ib_nI (by omega)).mpr (by omega)), if_neg (show ¬ s 129 (ix (s 128 2)) = (32 : Int32) by rw [i3, ix_nI (by omega), ht.2]; exact fun z => hne (nI_inj (b := 32) (by omega) (by omega) z))]
    · have hb := q3 i i1 (by omega)
      have ht := hc.2.2 i (by omega)
      refine Or.inl ⟨st2 s 128 2 (nI (i + 1)), ?_, ⟨i + 1, by omega, by omega, s2_eq, fun o j g => by rw [s2_at, if_neg g, hF o j g]⟩, ?_⟩
      · unfold b_X12_nextToken_0
        simp only [Lt_eq]
        rw [if_neg (show ¬ s 128 0 ≤ s 128 2 by rw [hc.2.1, i3]; exact nI_ge (by omega) (by omega)), Gd_t (show ib (s 128 2) 240 by rw [i3]; exact (ib_nI (by omega)).mpr (by omega)), if_pos (show s 129 (ix (s 128 2)) = (32 : Int32) by rw [i3, ix_nI (by omega), ht.2, hb]; rfl), i3, nI_1]
      · rw [s2_eq, i3, nI_clamp (by omega), nI_clamp (by omega)]
        omega) 100000 M ⟨p, Nat.le_refl _, q1, h2, fun _ _ _ => rfl⟩ (by omega)
  obtain ⟨Ma, k1, k2, k3⟩ := key
  unfold f_X12_nextToken
  simp only [Lt_eq]
  rw [k1, Bd_some, k2]
  generalize hM8 : st2 (st2 (st2 Ma 128 3 (nI q)) 128 5 (0 : Int32)) 128 6 (0 : Int32) = M8
  have f8 : ∀ o j, ¬ (o = 128 ∧ (j = 3 ∨ j = 5 ∨ j = 6)) → M8 o j = Ma o j := fun o j g => by rw [← hM8, s2_at, if_neg (by omega), s2_at, if_neg (by omega), s2_at, if_neg (by omega)]
  have g8 : ∀ o j, ¬ (o = 128 ∧ 2 ≤ j ∧ j ≤ 6) → M8 o j = M o j := fun o j g => by rw [f8 o j (by omega), k3 o j (by omega)]
  have a2 : M8 128 2 = nI q := by rw [f8 128 2 (by omega)]; exact k2
  have a3 : M8 128 3 = nI q := by rw [← hM8, s2_nk (by omega), s2_nk (by omega), s2_eq]
  have a5 : M8 128 5 = nI 0 := by rw [← hM8, s2_nk (by omega), s2_eq]; rfl
  have a6 : M8 128 6 = nI 0 := by rw [← hM8, s2_eq]; rfl
  have hc8 : RTx len tx M8 := RTx_c (fun o j g => g8 o j (by omega)) h
  by_cases hend : q = len
  · rw [if_pos (show M8 128 2 = M8 128 0 by rw [a2, hc8.2.1, hend])]
    refine ⟨_, rfl, by rw [s2_nk (by omega)]; exact a3, fun _ => ⟨s2_eq, by rw [s2_nk (by omega)]; exact a2⟩, fun hh => absurd hh (by omega), fun e he hd => absurd hd.2.1 (by omega), fun o j g => by rw [s2_at, if_neg (by omega)]; exact g8 o j g⟩
  · have hql : q < len := by omega
    have ht := hc8.2.2 q hql
    rw [if_neg (show ¬ M8 128 2 = M8 128 0 by rw [a2, hc8.2.1]; exact fun z => hend (nI_inj (by omega) (by omega) z)), Gd_t (show ib (M8 128 2) 240 by rw [a2]; exact (ib_nI (by omega)).mpr (by omega))]
    have hlet : M8 129 (ix (M8 128 2)) = nI (tx q) := by rw [a2, ix_nI (by omega)]; exact ht.2
    by_cases hdg : 48 ≤ tx q ∧ tx q ≤ 57
    · have hin1 : f_X12_in (M8 129 (ix (M8 128 2))) (48 : Int32) (57 : Int32) = 1 := by rw [hlet]; exact in_1 (lo := 48) (hi := 57) hdg.1 hdg.2 (by omega)
      rw [hin1, if_neg one_ne]
      obtain ⟨e, hde⟩ := dgp_ex (tx := tx) (show q ≤ len by omega)
      obtain ⟨e1, e2, e3, e4⟩ := id hde
      have key2 := Lp_inv (f := b_X12_nextToken_95 128) (fun s => ∃ i, q ≤ i ∧ i ≤ e ∧ s 128 2 = nI i ∧ s 128 5 = nI (vlF tx q (i - q)) ∧ s 128 6 = nI (i - q) ∧ ∀ o j, ¬ (o = 128 ∧ (j = 2 ∨ j = 5 ∨ j = 6)) → s o j = M8 o j) (fun s => 1000 - (s 128 2).toNatClampNeg) (fun s => s 128 2 = nI e ∧ s 128 5 = nI (vlF tx q (e - q)) ∧ s 128 6 = nI (e - q) ∧ ∀ o j, ¬ (o = 128 ∧ (j = 2 ∨ j = 5 ∨ j = 6)) → s o j = M8 o j) (fun s hs => by
        obtain ⟨i, i1, i2, i3, i5, i6, hF⟩ := hs
        have hc : RTx len tx s := RTx_c (fun o j g => hF o j (by omega)) hc8
        have hgd : i < 240 → ib (s 128 2) 240 := fun hh => by rw [i3]; exact (ib_nI (by omega)).mpr hh
        by_cases hin : i = e
        · subst hin
          refine Or.inr ⟨s, ?_, i3, i5, i6, hF⟩
          unfold b_X12_nextToken_95
          by_cases hl2 : i = len
          · rw [if_pos (show s 128 0 ≤ s 128 2 by rw [hc.2.1, i3, hl2]; exact nI_le (Nat.le_refl _) (by omega))]
          · have ht2 := hc.2.2 i (by omega)
            have hne := e4 (by omega)
            have hz : f_X12_in (s 129 (ix (s 128 2))) (48 : Int32) (57 : Int32) = 0 := by
              rw [i3, ix_nI (by omega), ht2.2]
              rcases rng_cases 48 57 (by omega) (by omega) (nI (tx i)) with ⟨a, z1, z2, z3⟩ | hr
              · have := nI_inj (by omega) (by omega) z3
                omega
              · exact in_0 (lo := 48) (hi := 57) hr
            rw [if_neg (show ¬ s 128 0 ≤ s 128 2 by rw [hc.2.1, i3]; exact nI_ge (by omega) (by omega)), Gd_t (hgd (by omega)), hz, if_pos rfl]
        · have hb := e3 i i1 (by omega)
          have ht2 := hc.2.2 i (by omega)
          have h1' : f_X12_in (s 129 (ix (s 128 2))) (48 : Int32) (57 : Int32) = 1 := by
            rw [i3, ix_nI (by omega), ht2.2]; exact in_1 (lo := 48) (hi := 57) hb.1 hb.2 (by omega)
          have hvb := vlF_b (tx := tx) (q := q) (i := i - q) (fun j hj => e3 (q + j) (by omega) (by omega))
          have hvs : vlF tx q (i + 1 - q) = if i - q < 3 then vlF tx q (i - q) * 10 + (tx i - 48) else vlF tx q (i - q) := by
            rw [show i + 1 - q = (i - q) + 1 by omega]
            show (if i - q < 3 then vlF tx q (i - q) * 10 + (tx (q + (i - q)) - 48) else vlF tx q (i - q)) = _
            rw [show q + (i - q) = i by omega]
          have hj : (((if (3 : Int32) ≤ (s 128 6) then some (s 128 5) else Gd (ib (s 128 2) 240) (some ((((10 : Int32) * (s 128 5)) + (s 129 (ix (s 128 2)))) - (48 : Int32))))) : Option (Int32)) = some (nI (vlF tx q (i + 1 - q))) := by
            rw [hvs]
            by_cases c : i - q < 3
            · rw [if_neg (show ¬ (3 : Int32) ≤ s 128 6 by rw [i6]; exact nI_ge (b := 3) c (by omega)), if_pos c, Gd_t (hgd (by omega)), i3, ix_nI (by omega), ht2.2, i5, show (10 : Int32) * nI (vlF tx q (i - q)) = nI (10 * vlF tx q (i - q)) from pk_mul 10 _, nI_add, show nI (10 * vlF tx q (i - q) + tx i) - (48 : Int32) = nI (10 * vlF tx q (i - q) + tx i - 48) from pk_sub (b := 48) (by omega), show 10 * vlF tx q (i - q) + tx i - 48 = vlF tx q (i - q) * 10 + (tx i - 48) by omega]
            · rw [if_pos (show (3 : Int32) ≤ s 128 6 by rw [i6]; exact nI_le (a := 3) (by omega) (by omega)), if_neg c, i5]
          refine Or.inl ⟨st2 (st2 (st2 s 128 5 (nI (vlF tx q (i + 1 - q)))) 128 6 (nI (i + 1 - q))) 128 2 (nI (i + 1)), ?_, ⟨i + 1, by omega, by omega, s2_eq, by rw [s2_nk (by omega), s2_nk (by omega), s2_eq], by rw [s2_nk (by omega), s2_eq], fun o j g => by rw [s2_at, if_neg (by omega), s2_at, if_neg (by omega), s2_at, if_neg (by omega), hF o j g]⟩, ?_⟩
          · unfold b_X12_nextToken_95
            simp only [Lt_eq]
            rw [if_neg (show ¬ s 128 0 ≤ s 128 2 by rw [hc.2.1, i3]; exact nI_ge (by omega) (by omega)), Gd_t (hgd (by omega)), h1', if_neg one_ne, hj, Bd_some, s2_nk (show 6 ≠ 5 by omega), i6, nI_1, s2_nk (show 2 ≠ 6 by omega), s2_nk (show 2 ≠ 5 by omega), i3, nI_1, show i - q + 1 = i + 1 - q by omega]
          · rw [s2_eq, i3, nI_clamp (by omega), nI_clamp (by omega)]
            omega) 100000 M8 ⟨q, Nat.le_refl _, e1, a2, by rw [Nat.sub_self]; exact a5, by rw [Nat.sub_self]; exact a6, fun _ _ _ => rfl⟩ (by omega)
      obtain ⟨Mb, b1, b2, b3, b4, b5⟩ := key2
      rw [b1, Bd_some]
      refine ⟨_, rfl, by rw [s2_nk (by omega), b5 128 3 (by omega)]; exact a3, fun hh => absurd hh hend, fun _ hh => absurd hdg hh, fun e' he' hd' => ?_, fun o j g => by rw [s2_at, if_neg (by omega), b5 o j (by omega)]; exact g8 o j g⟩
      have hee : e' = e := by
        obtain ⟨f1, f2, f3, f4⟩ := hd'
        apply Classical.byContradiction
        intro hne
        by_cases c : e' < e
        · exact f4 (by omega) (e3 e' (by omega) c)
        · exact e4 (by omega) (f3 e (by omega) (by omega))
      rw [hee]
      exact ⟨s2_eq, by rw [s2_nk (by omega)]; exact b2, by rw [s2_nk (by omega)]; exact b3, by rw [s2_nk (by omega)]; exact b4⟩
    · have hin0 : f_X12_in (M8 129 (ix (M8 128 2))) (48 : Int32) (57 : Int32) = 0 := by
        rw [hlet]
        rcases rng_cases 48 57 (by omega) (by omega) (nI (tx q)) with ⟨a, z1, z2, z3⟩ | hr
        · have := nI_inj (by omega) (by omega) z3
          omega
        · exact in_0 (lo := 48) (hi := 57) hr
      rw [hin0, if_pos rfl, Gd_t (show ib (M8 128 2) 240 by rw [a2]; exact (ib_nI (by omega)).mpr (by omega)), hlet]
      refine ⟨_, rfl, by rw [s2_nk (by omega), s2_nk (by omega)]; exact a3, fun hh => absurd hh hend, fun _ _ => ⟨by rw [s2_nk (by omega), s2_eq], by rw [s2_eq, s2_nk (by omega), a2, nI_1]⟩, fun e he hd => absurd (hd.2.2.1 q (Nat.le_refl _) he) hdg, fun o j g => by rw [s2_at, if_neg (by omega), s2_at, if_neg (by omega)]; exact g8 o j g⟩
