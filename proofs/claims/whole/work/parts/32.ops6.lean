/-! a row holds every bell -/
theorem surj : ∀ (n : Nat) (w : Nat → Nat), (∀ p, p < n → w p < n) → (∀ p q, p < n → q < n → w p = w q → p = q) → ∀ b, b < n → ∃ p, p < n ∧ w p = b
  | 0, _, _, _, b, hb => absurd hb (by omega)
  | n + 1, w, hw, hj, b, hb => by
    have ih := surj n (fun p => if w p = n then w n else w p) (fun p hp => by
      show (if w p = n then w n else w p) < n
      have h1 := hw p (by omega)
      have h2 := hw n (by omega)
      by_cases h3 : w p = n
      · rw [if_pos h3]
        by_cases h4 : w n = n
        · have := hj p n (by omega) (by omega) (by omega)
          omega
        · omega
      · rw [if_neg h3]; omega) (fun p q hp hq hpq => by
      have h2 : ∀ p, p < n → w p = w n → False := fun p hp e => by
        have := hj p n (by omega) (by omega) e
        omega
      apply hj p q (by omega) (by omega)
      have e : (if w p = n then w n else w p) = (if w q = n then w n else w q) := hpq
      by_cases h3 : w p = n
      · by_cases h4 : w q = n
        · omega
        · rw [if_pos h3, if_neg h4] at e
          exact absurd e.symm (fun e => h2 q hq e)
      · by_cases h4 : w q = n
        · rw [if_neg h3, if_pos h4] at e
          exact absurd e (fun e => h2 p hp e)
        · rw [if_neg h3, if_neg h4] at e
          exact e)
    by_cases h1 : w n = b
    · exact ⟨n, by omega, h1⟩
    · by_cases h2 : b = n
      · obtain ⟨p, hp, he⟩ := ih (w n) (by have := hw n (by omega); omega)
        have he' : (if w p = n then w n else w p) = w n := he
        by_cases h3 : w p = n
        · exact ⟨p, by omega, by omega⟩
        · rw [if_neg h3] at he'
          have := hj p n (by omega) (by omega) he'
          omega
      · obtain ⟨p, hp, he⟩ := ih b (by omega)
        have he' : (if w p = n then w n else w p) = b := he
        by_cases h3 : w p = n
        · rw [if_pos h3] at he'
          exact absurd he' h1
        · rw [if_neg h3] at he'
          exact ⟨p, by omega, he'⟩
theorem firstW (P : Nat → Prop) (hd : ∀ i, P i ∨ ¬ P i) : ∀ w, (∀ i, i < w → P i) ∨ ∃ i0, i0 < w ∧ ¬ P i0 ∧ ∀ i, i < i0 → P i
  | 0 => Or.inl (fun i hi => by omega)
  | w + 1 => by
    rcases firstW P hd w with h1 | ⟨i0, h1, h2, h3⟩
    · rcases hd w with h2 | h2
      · refine Or.inl (fun i hi => ?_)
        by_cases h3 : i = w
        · rw [h3]; exact h2
        · exact h1 i (by omega)
      · exact Or.inr ⟨w, by omega, h2, h1⟩
    · exact Or.inr ⟨i0, by omega, h2, h3⟩
theorem placeM_spec {o1 n p b : Nat} {w : Nat → Nat} {M : Mm} (h : M 128 16 = nI n) (hn : n ≤ 6) (hl : kln o1 = 23) (hr : ∀ p, p < n → M o1 (5 + p) = nI (w p)) (hw : ∀ p, p < n → w p < 8) (hj : ∀ p q, p < n → q < n → w p = w q → p = q) (hb : b < 8) (hp : p < n) (hwp : w p = b) : f_X12_placeOf 128 o1 (nI b) M = some (nI p) := by
  unfold f_X12_placeOf
  have hs : ∀ i, i < n → b_X12_placeOf_5 128 o1 (nI b) M (nI (if p < i then p else 0), nI i) = some (.inl (nI (if p < i + 1 then p else 0), nI (i + 1))) := fun i hi => by
    unfold b_X12_placeOf_5
    simp only [Lt_eq]
    rw [h, if_neg (nI_ge hi (by omega)), show (5 : Int32) + nI i = nI (5 + i) from nI_add 5 i, hl, Gd_t ((ib_nI (by omega)).mpr (by omega)), ix_nI (by omega), hr i hi, nI_1]
    have h8 := hw i hi
    by_cases he : i = p
    · subst he
      rw [if_pos (show nI (w i) = nI b by rw [hwp]), if_pos (show i < i + 1 by omega)]
    · rw [if_neg (show ¬ nI (w i) = nI b from fun q => he (hj i p hi hp (by rw [hwp]; exact nI_inj (by omega) (by omega) q)))]
      by_cases h2 : p < i
      · rw [if_pos h2, if_pos (show p < i + 1 by omega)]
      · rw [if_neg h2, if_neg (show ¬ p < i + 1 by omega)]
  have he : b_X12_placeOf_5 128 o1 (nI b) M (nI (if p < n then p else 0), nI n) = some (.inr (nI p)) := by
    unfold b_X12_placeOf_5
    simp only [Lt_eq]
    rw [h, if_pos (nI_le (Nat.le_refl _) (by omega)), if_pos hp]
  exact Bd_Lp (s0 := ((0 : Int32), (0 : Int32))) (fun i => (nI (if p < i then p else 0), nI i)) n (nI p) rfl hs he (by omega)
theorem all_spec : ∀ n, n < 7 → (sl (1 : Int32) (nI n)) - (1 : Int32) = nI (2 ^ n - 1) := by decide +kernel
theorem empty_spec {t n : Nat} {M : Mm} (ht : t = 1 ∨ t = 18) (t0 : M t 0 = nI n) (hn : n ≤ 6) : ∃ M', f_X2_empty 117 t M = some M' ∧ M' 117 0 = nI 0 ∧ M' 117 1 = nI (2 ^ n - 1) ∧ M' 117 2 = nI 0 ∧ ∀ o, o ≠ 117 → M' o = M o := by
  unfold f_X2_empty
  simp only [Lt_eq]
  have e0 : st2 (st2 M 117 0 (0 : Int32)) 117 2 (0 : Int32) t 0 = nI n := by rw [s2_ne (by omega), s2_ne (by omega), t0]
  have e1 : (if (f_X9_stands t (st2 (st2 M 117 0 (0 : Int32)) 117 2 (0 : Int32))) = 0 then (0 : Int32) else (f_X9_allPlaces t (st2 (st2 M 117 0 (0 : Int32)) 117 2 (0 : Int32)))) = nI (2 ^ n - 1) := by
    by_cases h : n = 0
    · subst h
      rw [stands_0 e0, if_pos rfl]; rfl
    · rw [stands_1 e0 (by omega) hn, if_neg one_ne]
      unfold f_X9_allPlaces
      rw [e0, all_spec n (by omega)]
  rw [e1]
  exact ⟨_, rfl, by rw [s2_nk (by omega), s2_nk (by omega), s2_eq]; rfl, by rw [s2_eq], by rw [s2_nk (by omega), s2_eq]; rfl, fun o ho => by rw [s2_ne ho, s2_ne ho, s2_ne ho]⟩
theorem op_tear {M : Mm} (h : InvX M) : ∃ r M1 M2, f_X11_tear 0 M = some (r, M1) ∧ f_X12_tear 128 M1 = some (r, M2) ∧ InvX M2 := by
  obtain ⟨t, n, k, ns, C, Me, W, S, E, hI⟩ := id h
  obtain ⟨ht, h00, hkd, t0, t1, t2⟩ := inv_t hI
  obtain ⟨n1, n2, n3, n4, n5⟩ := inv_n hI
  obtain ⟨c1, c2, c3, c4, c5, c6, c7, ⟨hh, N, R, x1, x2, x3, x4, x5, x6⟩, ⟨w, bb, pp, w1, w2, w3, w4⟩⟩ := id hI
  unfold f_X11_tear f_X12_tear
  simp only [Lt_eq, h00, Gd_t hkd]
  obtain ⟨M1, g1, g2, g3, g4, g5⟩ := empty_spec ht t0 n1
  rw [g1, Bd_some]
  have hf : ∀ o j, ¬ (o = 117 ∨ (o = 128 ∧ (j = 31 ∨ j = 33))) → st2 (st2 M1 128 31 (0 : Int32)) 128 33 (0 : Int32) o j = M o j := fun o j q => by rw [s2_at, if_neg (by omega), s2_at, if_neg (by omega), g5 o (by omega)]
  refine ⟨_, _, st2 (st2 M1 128 31 (0 : Int32)) 128 33 (0 : Int32), rfl, ?_, t, n, k, ns, C, Me, W, S, E, IT_c (fun o j q => hf o j (by omega)) c1, IE_c (fun o j q => hf o j (by omega)) c2, IX_c (fun o j q => hf o j (by omega)) c3, IF_c (fun o j q => hf o j (by omega)) c4, IS_c (fun o j q => hf o j (by omega)) c5, IB_c (fun o j q => hf o j (by omega)) c6, II_c (fun o j q => hf o j (by omega)) c7, ⟨0, N, R, by omega, fun _ => rfl, ?_, ?_, ?_, fun i hi => absurd hi (by omega)⟩, ⟨0, bb, pp, by omega, ?_, ?_, fun i hi => absurd hi (by omega)⟩⟩
  · rw [g5 128 (by omega), x3, w2, x4, w3]
  · rw [s2_ne (by omega), s2_ne (by omega), g2]
  · rw [s2_nk (by omega), s2_eq]; rfl
  · rw [s2_ne (by omega), s2_ne (by omega), g3]; rfl
  · rw [s2_ne (by omega), s2_ne (by omega), g4]
  · rw [s2_eq]; rfl
theorem op_write {M : Mm} (x y : Int32) (h : InvX M) : ∃ r M1 M2, f_X11_write 0 x y M = some (r, M1) ∧ f_X12_write 128 x y M1 = some (r, M2) ∧ InvX M2 := by
  obtain ⟨t, n, k, ns, C, Me, W, S, E, hI⟩ := id h
  obtain ⟨ht, h00, hkd, t0, t1, t2⟩ := inv_t hI
  obtain ⟨m16, m17, m18, m19⟩ := inv_m hI
  obtain ⟨n1, n2, n3, n4, n5⟩ := inv_n hI
  obtain ⟨c1, c2, c3, c4, c5, c6, c7, c8, ⟨w, bb, pp, w1, w2, w3, w4⟩⟩ := id hI
  unfold f_X11_write f_X12_write f_X2_enter
  simp only [Lt_eq, h00, Gd_t hkd]
  rcases bell_cases n1 x with ⟨b, hb, rfl⟩ | ⟨q1, q2⟩
  · rw [hasBell_spec t0 hb (by omega), if_neg one_ne]
    rcases bell_cases n1 y with ⟨p, hp, rfl⟩ | ⟨q1, q2⟩
    · rw [hasBell_spec t0 hp (by omega), if_neg one_ne, w2]
      by_cases h15 : w = 15
      · subst h15
        rw [if_neg (show ¬ nI 15 < (15 : Int32) by decide), Bd_some, if_pos rfl]
        exact ⟨_, _, _, rfl, by rw [isBell_1 n1 hb m16, if_neg one_ne, isBell_1 n1 hp m16, if_neg one_ne, if_pos (show M 128 33 = (15 : Int32) from w3)], h⟩
      · rw [if_pos (show nI w < (15 : Int32) from nI_lt (b := 15) (by omega) (by omega)), Gd_t ((ib_nI (by omega)).mpr (by omega)), ix_nI (by omega), s2_ne (show 117 ≠ 118 by omega), w2, Gd_t ((ib_nI (by omega)).mpr (by omega)), ix_nI (by omega), s2_ne (show 117 ≠ 119 by omega), s2_ne (show 117 ≠ 118 by omega), w2, nI_1, Bd_some, if_neg one_ne]
        generalize hM1 : st2 (st2 (st2 M 118 w (nI b)) 119 w (nI p)) 117 2 (nI (w + 1)) = M1
        have f1 : ∀ o j, ¬ ((o = 118 ∧ j = w) ∨ (o = 119 ∧ j = w) ∨ (o = 117 ∧ j = 2)) → M1 o j = M o j := fun o j q => by rw [← hM1, s2_at, if_neg (by omega), s2_at, if_neg (by omega), s2_at, if_neg (by omega)]
        have hf : ∀ o j, ¬ ((o = 118 ∧ j = w) ∨ (o = 119 ∧ j = w) ∨ (o = 117 ∧ j = 2) ∨ (o = 143 ∧ (j = 2 * w ∨ j = 2 * w + 1)) ∨ (o = 128 ∧ j = 33)) → st2 (st2 (st2 M1 143 (2 * w) (nI b)) 143 (2 * w + 1) (nI p)) 128 33 (nI (w + 1)) o j = M o j := fun o j q => by rw [s2_at, if_neg (by omega), s2_at, if_neg (by omega), s2_at, if_neg (by omega), f1 o j (by omega)]
        refine ⟨nI (w + 1), M1, st2 (st2 (st2 M1 143 (2 * w) (nI b)) 143 (2 * w + 1) (nI p)) 128 33 (nI (w + 1)), ?_, ?_, t, n, k, ns, C, Me, W, S, E, IT_c (fun o j q => hf o j (by omega)) c1, IE_c (fun o j q => hf o j (by omega)) c2, IX_c (fun o j q => hf o j (by omega)) c3, IF_c (fun o j q => hf o j (by omega)) c4, IS_c (fun o j q => hf o j (by omega)) c5, IB_c (fun o j q => hf o j (by omega)) c6, II_c (fun o j q => hf o j (by omega)) c7, IH_c (fun o j q => hf o j (by omega)) c8, ⟨w + 1, fun i => if i = w then b else bb i, fun i => if i = w then p else pp i, by omega, ?_, ?_, fun i hi => ?_⟩⟩
        · show some (M1 117 2, M1) = _
          rw [← hM1, s2_eq]
        · have q16 : M1 128 16 = nI n := by rw [f1 _ _ (by omega)]; exact m16
          have q33 : M1 128 33 = nI w := by rw [f1 _ _ (by omega)]; exact w3
          rw [isBell_1 n1 hb q16, if_neg one_ne, isBell_1 n1 hp q16, if_neg one_ne, q33, if_neg (show ¬ nI w = (15 : Int32) from fun q => h15 (nI_inj (b := 15) (by omega) (by omega) q)), show (2 : Int32) * nI w = nI (2 * w) from pk_mul 2 w, Gd_t ((ib_nI (by omega)).mpr (by omega)), ix_nI (by omega), s2_ne (show 128 ≠ 143 by omega), q33, show (2 : Int32) * nI w = nI (2 * w) from pk_mul 2 w, nI_1, Gd_t ((ib_nI (by omega)).mpr (by omega)), ix_nI (by omega), s2_ne (show 128 ≠ 143 by omega), s2_ne (show 128 ≠ 143 by omega), q33, nI_1, s2_eq]
        · rw [s2_ne (by omega), s2_ne (by omega), s2_ne (by omega), ← hM1, s2_eq]
        · rw [s2_eq]
        · by_cases hi2 : i = w
          · subst hi2
            simp only [↓reduceIte]
            refine ⟨hb, hp, ?_, ?_, ?_, ?_⟩
            · rw [s2_ne (by omega), s2_ne (by omega), s2_ne (by omega), ← hM1, s2_ne (by omega), s2_ne (by omega), s2_eq]
            · rw [s2_ne (by omega), s2_ne (by omega), s2_ne (by omega), ← hM1, s2_ne (by omega), s2_eq]
            · rw [s2_ne (by omega), s2_nk (by omega), s2_eq]
            · rw [s2_ne (by omega), s2_eq]
          · simp only [if_neg hi2]
            obtain ⟨v1, v2, v3, v4, v5, v6⟩ := w4 i (by omega)
            exact ⟨v1, v2, by rw [hf _ _ (by omega)]; exact v3, by rw [hf _ _ (by omega)]; exact v4, by rw [hf _ _ (by omega)]; exact v5, by rw [hf _ _ (by omega)]; exact v6⟩
    · rw [q1 t M t0, if_pos rfl]
      exact ⟨_, _, _, rfl, by rw [isBell_1 n1 hb m16, if_neg one_ne, q2 M m16, if_pos rfl], h⟩
  · rw [q1 t M t0, if_pos rfl]
    exact ⟨_, _, _, rfl, by rw [q2 M m16, if_pos rfl], h⟩
theorem op_judge {M : Mm} (h : InvX M) : ∃ r, f_X11_judge 0 M = some r ∧ f_X12_judge 128 M = some r := by
  obtain ⟨t, n, k, ns, C, Me, W, S, E, hI⟩ := id h
  obtain ⟨ht, h00, hkd, t0, t1, t2⟩ := inv_t hI
  obtain ⟨m16, m17, m18, m19⟩ := inv_m hI
  obtain ⟨n1, n2, n3, n4, n5⟩ := inv_n hI
  obtain ⟨c1, ⟨hE, hC, hA⟩, c3, c4, c5, c6, c7, c8, ⟨w, bb, pp, w1, w2, w3, w4⟩⟩ := id hI
  have hwn : ∀ p, p < n → E (5 + p) < n := hE.1.2.2.2.2.2.1
  have hw8 : ∀ p, p < n → E (5 + p) < 8 := fun p hp => by have := hwn p hp; omega
  have hj : ∀ p q, p < n → q < n → E (5 + p) = E (5 + q) → p = q := hE.1.2.2.2.2.2.2.1
  have hpl : ∀ b, b < n → ∃ p, p < n ∧ f_X5_placeOf (nI (enc n (fun p => E (5 + p)))) (nI b) (nI n) = some (nI p) ∧ f_X12_placeOf 128 136 (nI b) M = some (nI p) := fun b hb => by
    obtain ⟨p, hp, hpb⟩ := surj n (fun p => E (5 + p)) hwn hj b hb
    exact ⟨p, hp, placeOf_enc n1 hw8 hp (by omega) hpb (fun q hq e => by have := hj q p (by omega) hp (by rw [show E (5 + q) = b from e]; exact hpb.symm); omega), placeM_spec m16 n1 (by decide) (fun p hp => hA (5 + p) (by omega)) hw8 hj (by omega) hp hpb⟩
  have hrow : M (37 + 1) 0 = nI (enc n (fun p => E (5 + p))) := hC.2.2.2.1.1
  have stepC : ∀ i, i < w → ∃ p, p < n ∧ b_X2_firstWrong_2 117 (M (37 + 1) 0) t M (nI i) = (if p = pp i then some (.inl (nI (i + 1))) else some (.inr (.inl (nI i)))) ∧ b_X12_judge_2 128 M (nI i) = (if p = pp i then some (.inl (nI (i + 1))) else some (.inr (.inl (nI i)))) := fun i hi => by
    obtain ⟨v1, v2, v3, v4, v5, v6⟩ := w4 i hi
    obtain ⟨p, hp, y1, y2⟩ := hpl (bb i) v1
    have hc : (nI p = nI (pp i)) ↔ p = pp i := ⟨fun q => nI_inj (by omega) (by omega) q, fun q => by rw [q]⟩
    refine ⟨p, hp, ?_, ?_⟩
    · unfold b_X2_firstWrong_2
      simp only [Lt_eq]
      rw [w2, if_neg (nI_ge hi (by omega)), if_neg (show ¬ (15 : Int32) ≤ nI i from nI_ge (b := 15) (by omega) (by omega)), Gd_t ((ib_nI (by omega)).mpr (by omega)), ix_nI (by omega), v3, t0, hrow, y1, Bd_some, Gd_t ((ib_nI (by omega)).mpr (by omega)), v4, nI_1]
      by_cases q : p = pp i
      · rw [if_pos (hc.mpr q), if_pos q]
      · rw [if_neg (fun e => q (hc.mp e)), if_neg q]
    · unfold b_X12_judge_2
      simp only [Lt_eq]
      rw [w3, if_neg (nI_ge hi (by omega)), show (2 : Int32) * nI i = nI (2 * i) from pk_mul 2 i, nI_1, nI_1, Gd_t ((ib_nI (by omega)).mpr (by omega)), ix_nI (by omega), v5, y2, Bd_some, Gd_t ((ib_nI (by omega)).mpr (by omega)), ix_nI (by omega), v6]
      by_cases q : p = pp i
      · rw [if_pos (hc.mpr q), if_pos q]
      · rw [if_neg (fun e => q (hc.mp e)), if_neg q]
  have endC : b_X2_firstWrong_2 117 (M (37 + 1) 0) t M (nI w) = some (.inr (.inr ())) := by
    unfold b_X2_firstWrong_2
    rw [w2, if_pos (nI_le (Nat.le_refl _) (by omega))]
  have endM : b_X12_judge_2 128 M (nI w) = some (.inr (.inr ())) := by
    unfold b_X12_judge_2
    rw [w3, if_pos (nI_le (Nat.le_refl _) (by omega))]
  unfold f_X11_judge f_X12_judge f_X2_firstWrong
  simp only [h00, Gd_t hkd]
  rcases firstW (fun i => b_X2_firstWrong_2 117 (M (37 + 1) 0) t M (nI i) = some (.inl (nI (i + 1))) ∧ b_X12_judge_2 128 M (nI i) = some (.inl (nI (i + 1)))) (fun i => Classical.em _) w with hall | ⟨i0, z1, z2, z3⟩
  · refine ⟨-1, ?_, ?_⟩
    · rw [BdS_LpR (s0 := (0 : Int32)) (fun i => nI i) w () rfl (fun i hi => (hall i hi).1) endC (by omega), Bd_some]
    · rw [BdS_LpR (s0 := (0 : Int32)) (fun i => nI i) w () rfl (fun i hi => (hall i hi).2) endM (by omega)]
  · obtain ⟨p, hp, y1, y2⟩ := stepC i0 z1
    have hne : ¬ p = pp i0 := fun q => z2 ⟨by rw [y1, if_pos q], by rw [y2, if_pos q]⟩
    rw [if_neg hne] at y1 y2
    refine ⟨nI i0, ?_, ?_⟩
    · rw [BdS_LpL (s0 := (0 : Int32)) (fun i => nI i) i0 (nI i0) rfl (fun i hi => (z3 i hi).1) y1 (by omega), Bd_some]
    · rw [BdS_LpL (s0 := (0 : Int32)) (fun i => nI i) i0 (nI i0) rfl (fun i hi => (z3 i hi).2) y2 (by omega)]
