/-! change, hear -/
theorem become_1 {o n c : Nat} {M : Mm} (hn : n < 7) (hc : c < 2 ^ n) (h : isC n c = true) : ∃ M', f_X0_become o (nI c) (nI n) M = some (1, M') ∧ CHr n c (M' o) ∧ ∀ q, q ≠ o → M' q = M q := by
  have h64 := pow_ns (show n ≤ 6 by omega)
  have hb := enc_b (n := n) (w := fsW c) (by omega) (fun p _ => fsW_lt c p)
  unfold f_X0_become
  simp only [Lt_eq]
  rw [firstsOf_spec n hn c (by omega) hc, Bd_some, if_pos h, if_neg (nI_m1 (by omega)), stays_spec n hn c (by omega) hc h]
  exact ⟨_, rfl, ⟨hc, h, by rw [s2_nk (by omega), s2_nk (by omega), s2_eq], by rw [s2_eq], by rw [s2_nk (by omega), s2_eq]⟩, fun q hq => by rw [s2_ne hq, s2_ne hq, s2_ne hq]⟩
theorem become_0 {o n c : Nat} {M : Mm} (hn : n < 7) (hc : c < 2 ^ n) (h : isC n c = false) : f_X0_become o (nI c) (nI n) M = some (0, M) := by
  have h64 := pow_ns (show n ≤ 6 by omega)
  unfold f_X0_become
  rw [firstsOf_spec n hn c (by omega) hc, Bd_some, if_neg (show ¬ isC n c = true by rw [h]; simp), if_pos rfl]
def alF (v u : Nat → Nat) : Nat → Nat
  | 0 => 0
  | p + 1 => alF v u p ||| (if v p = u p then 2 ^ p else 0)
theorem alF_lt (v u : Nat → Nat) : ∀ p, alF v u p < 2 ^ p
  | 0 => by show 0 < 1; omega
  | p + 1 => by
    have ih := alF_lt v u p
    have h2 : 2 ^ (p + 1) = 2 ^ p * 2 := Nat.pow_succ 2 p
    refine Nat.or_lt_two_pow (by omega) ?_
    split
    · exact Nat.pow_lt_pow_right (by omega) (by omega)
    · exact Nat.pow_pos (by omega)
theorem sl1 {p : Nat} (h : p < 31) : sl (1 : Int32) (nI p) = nI (2 ^ p) := by
  have := sl_nI (a := 1) (k := p) (by omega) (by rw [Nat.one_mul]; exact Nat.pow_lt_pow_right (by omega) (by omega))
  rw [Nat.one_mul] at this
  exact this
theorem alike_spec {n : Nat} {v u : Nat → Nat} (hn : n ≤ 6) (hv : ∀ p, p < n → v p < 8) (hu : ∀ p, p < n → u p < 8) : f_X5_placesAlike (nI (enc n v)) (nI (enc n u)) (nI n) = some (nI (alF v u n)) := by
  unfold f_X5_placesAlike
  have hs : ∀ i, i < n → b_X5_placesAlike_5 (nI (enc n v)) (nI (enc n u)) (nI n) (nI (alF v u i), nI i) = some (.inl (nI (alF v u (i + 1)), nI (i + 1))) := fun i hi => by
    unfold b_X5_placesAlike_5
    simp only [Lt_eq]
    have a1 := hv i hi
    have a2 := hu i hi
    rw [if_neg (nI_ge hi (by omega)), bellIn_enc hn hv hi, bellIn_enc hn hu hi, sl1 (by omega), nI_or, nI_1]
    by_cases e : v i = u i
    · rw [if_pos (by rw [e])]
      show _ = some (Sum.inl (nI (alF v u i ||| (if v i = u i then 2 ^ i else 0)), _))
      rw [if_pos e]
    · rw [if_neg (fun q => e (nI_inj (by omega) (by omega) q))]
      show _ = some (Sum.inl (nI (alF v u i ||| (if v i = u i then 2 ^ i else 0)), _))
      rw [if_neg e, Nat.or_zero]
  have he : b_X5_placesAlike_5 (nI (enc n v)) (nI (enc n u)) (nI n) (nI (alF v u n), nI n) = some (.inr (nI (alF v u n))) := by
    unfold b_X5_placesAlike_5
    rw [if_pos (nI_le (Nat.le_refl _) (by omega))]
  exact Bd_Lp (s0 := ((0 : Int32), (0 : Int32))) (fun i => (nI (alF v u i), nI i)) n _ rfl hs he (by omega)
theorem chg24_spec {n : Nat} {u : Nat → Nat} {M : Mm} (hn : n ≤ 6) (m16 : M 128 16 = nI n) (hr : ∀ p, p < n → M 137 (5 + p) = nI (u p)) : ∃ M', Lp (b_X12_change_24 128) 100000 ((0 : Int32), M) = some M' ∧ (∀ p, p < n → M' 145 p = nI (u p)) ∧ ∀ o, o ≠ 145 → M' o = M o := by
  have key := Lp_inv (f := b_X12_change_24 128) (fun s => ∃ i, i ≤ n ∧ s.1 = nI i ∧ (∀ p, p < i → s.2 145 p = nI (u p)) ∧ ∀ o, o ≠ 145 → s.2 o = M o) (fun s => n - s.1.toNatClampNeg) (fun t => (∀ p, p < n → t 145 p = nI (u p)) ∧ ∀ o, o ≠ 145 → t o = M o) (fun s hs => by
    obtain ⟨i, hi, hx, hR, hF⟩ := hs
    obtain ⟨x, Mi⟩ := s
    simp only at hx hR hF
    subst hx
    have f16 : Mi 128 16 = nI n := by rw [hF 128 (by omega)]; exact m16
    by_cases hin : i = n
    · subst hin
      exact Or.inr ⟨Mi, by unfold b_X12_change_24; rw [if_pos (show Mi 128 16 ≤ nI i by rw [f16]; exact nI_le (Nat.le_refl _) (by omega))], hR, hF⟩
    · refine Or.inl ⟨(nI (i + 1), st2 Mi 145 i (nI (u i))), ?_, ⟨i + 1, by omega, rfl, fun p hp => ?_, fun o ho => (s2_ne ho).trans (hF o ho)⟩, ?_⟩
      · unfold b_X12_change_24
        simp only [Lt_eq]
        rw [if_neg (show ¬ Mi 128 16 ≤ nI i by rw [f16]; exact nI_ge (by omega) (by omega)), show (5 : Int32) + nI i = nI (5 + i) from nI_add 5 i, Gd_t ((ib_nI (by omega)).mpr (by omega)), Gd_t ((ib_nI (by omega)).mpr (by omega)), ix_nI (by omega), ix_nI (by omega), hF 137 (by omega), hr i (by omega), nI_1]
      · show st2 Mi 145 i (nI (u i)) 145 p = _
        rw [s2_at]
        by_cases e : p = i
        · rw [if_pos ⟨rfl, e⟩, e]
        · rw [if_neg (by omega)]
          exact hR p (by omega)
      · show n - (nI (i + 1)).toNatClampNeg < n - (nI i).toNatClampNeg
        rw [nI_clamp (by omega), nI_clamp (by omega)]
        omega) 100000 ((0 : Int32), M) ⟨0, by omega, rfl, fun p hp => absurd hp (by omega), fun _ _ => rfl⟩ (by show n - _ < _; omega)
  exact key
theorem chg64_spec {n : Nat} {v u : Nat → Nat} {r : Int32} {M : Mm} (hn : n ≤ 6) (hv : ∀ p, p < n → v p < 8) (hu : ∀ p, p < n → u p < 8) (m16 : M 128 16 = nI n) (h1 : ∀ p, p < n → M 137 (5 + p) = nI (v p)) (h2 : ∀ p, p < n → M 145 p = nI (u p)) : Lp (b_X12_change_64 128 (r, M)) 100000 ((0 : Int32), (0 : Int32)) = some (nI (alF v u n)) := by
  have hs : ∀ i, i < n → b_X12_change_64 128 (r, M) (nI (alF v u i), nI i) = some (.inl (nI (alF v u (i + 1)), nI (i + 1))) := fun i hi => by
    unfold b_X12_change_64
    simp only [Lt_eq]
    have a1 := hv i hi
    have a2 := hu i hi
    rw [if_neg (show ¬ M 128 16 ≤ nI i by rw [m16]; exact nI_ge hi (by omega)), show (5 : Int32) + nI i = nI (5 + i) from nI_add 5 i, Gd_t ((ib_nI (by omega)).mpr (by omega)), Gd_t ((ib_nI (by omega)).mpr (by omega)), ix_nI (by omega), ix_nI (by omega), h1 i hi, h2 i hi, sl1 (by omega), nI_1]
    by_cases e : v i = u i
    · rw [if_pos (by rw [e]), nI_or]
      show _ = some (Sum.inl (nI (alF v u i ||| (if v i = u i then 2 ^ i else 0)), _))
      rw [if_pos e]
    · rw [if_neg (fun q => e (nI_inj (by omega) (by omega) q)), show (0 : Int32) = nI 0 from rfl, nI_or]
      show _ = some (Sum.inl (nI (alF v u i ||| (if v i = u i then 2 ^ i else 0)), _))
      rw [if_neg e]
  have he : b_X12_change_64 128 (r, M) (nI (alF v u n), nI n) = some (.inr (nI (alF v u n))) := by
    unfold b_X12_change_64
    rw [if_pos (show M 128 16 ≤ nI n by rw [m16]; exact nI_le (Nat.le_refl _) (by omega))]
  exact Lp_from (s0 := ((0 : Int32), (0 : Int32))) (fun i => (nI (alF v u i), nI i)) n _ rfl hs he (by omega)
theorem op_change {M : Mm} (x y : Int32) (h : InvX M) : ∃ r M1 M2, f_X11_change 0 x y M = some (r, M1) ∧ f_X12_change 128 x y M1 = some (r, M2) ∧ InvX M2 := by
  obtain ⟨t, n, k, ns, C, Me, W, S, E, hI⟩ := id h
  obtain ⟨ht, h00, hkd, t0, t1, t2⟩ := inv_t hI
  obtain ⟨m16, m17, m18, m19⟩ := inv_m hI
  obtain ⟨n1, n2, n3, n4, n5⟩ := inv_n hI
  unfold f_X11_change f_X12_change
  simp only [h00, Gd_t hkd]
  rw [t0]
  rcases rowOf_cases n1 x with ⟨v, hn, pv, rfl, cv, rv⟩ | ⟨cv, rv⟩
  · have hv8 := prm8 n1 pv
    have ev := enc_b n1 hv8
    rw [cv, Bd_some]
    rcases rowOf_cases n1 y with ⟨u, -, pu, rfl, cu, ru⟩ | ⟨cu, ru⟩
    · have hu8 := prm8 n1 pu
      have eu := enc_b n1 hu8
      have hal := alF_lt v u n
      have h64 := pow_ns n1
      rw [cu, Bd_some, if_neg (nI_m1 (by omega)), if_neg (nI_m1 (by omega)), alike_spec n1 hv8 hu8, Bd_some]
      -- the reference's side, from any memory that keeps its cells
      have refl : ∀ Mx : Mm, Mx 128 16 = nI n → ∃ M4, f_X12_change 128 (nI (figs n v)) (nI (figs n u)) Mx = (if isC n (alF v u n) = true then (if figs n (fun p => v (pm (alF v u n) p)) = figs n u then some (nI (alF v u n), stA M4 137 (chR (alF v u n) n (M4 137))) else some ((-1 : Int32), stA M4 137 (chR (alF v u n) n (M4 137)))) else some ((-1 : Int32), M4)) ∧ ∀ o, o ≠ 137 → o ≠ 145 → M4 o = Mx o := fun Mx mx => by
        obtain ⟨Ma, a1, a2, a3⟩ := rv Mx mx
        obtain ⟨Mb, b1, b2, b3⟩ := ru Ma (by rw [a3 128 (by omega)]; exact mx)
        have mb : Mb 128 16 = nI n := by rw [b3 128 (by omega), a3 128 (by omega)]; exact mx
        obtain ⟨Mc, c1, c2, c3⟩ := chg24_spec n1 mb b2
        have mc : Mc 128 16 = nI n := by rw [c3 128 (by omega)]; exact mb
        obtain ⟨Md, d1, d2, d3⟩ := rv Mc mc
        have md : Md 128 16 = nI n := by rw [d3 128 (by omega)]; exact mc
        refine ⟨Md, ?_, fun o q1 q2 => by rw [d3 o q1, c3 o q2, b3 o q1, a3 o q1]⟩
        unfold f_X12_change
        rw [a1, Bd_some, if_neg one_ne, b1, Bd_some, if_neg one_ne, c1, Bd_some, d1, Bd_some]
        rw [chg64_spec n1 hv8 hu8 md d2 (fun p hp => by rw [d3 145 (by omega)]; exact c2 p hp), Bd_some]
        dsimp only
        rw [md, isChange_spec n (by omega) (alF v u n) (by omega) hal, Bd_some]
        by_cases hc : isC n (alF v u n) = true
        · rw [if_pos hc, if_pos hc, if_neg one_ne, changes_spec n1 (by omega) hc md (by decide) (by omega), Bd_some]
          have hrow : ∀ p, p < n → stA Md 137 (chR (alF v u n) n (Md 137)) 137 (5 + p) = nI (v (pm (alF v u n) p)) := fun p hp => by
            rw [stA_self]
            unfold chR
            rw [if_pos (by omega), show 5 + p - 5 = p by omega]
            exact d2 _ (pm_lt hc hp)
          rw [figOf_spec (by rw [stA_ne (by omega)]; exact md) n1 (by decide) hrow, Bd_some]
          have f1 := figs_b (n := n) (w := fun p => v (pm (alF v u n) p)) n1 (fun p hp => by have := hv8 _ (pm_lt hc hp); show v (pm (alF v u n) p) < 9; omega)
          have f2 := figs_b (n := n) (w := u) n1 (fun p hp => by have := hu8 p hp; omega)
          by_cases e : figs n (fun p => v (pm (alF v u n) p)) = figs n u
          · rw [if_pos (by rw [e]), if_pos e]
          · rw [if_neg (fun q => e (nI_inj (by omega) (by omega) q)), if_neg e]
        · rw [if_neg hc, if_neg hc, if_pos rfl]
      by_cases hc : isC n (alF v u n) = true
      · obtain ⟨M1, g1, g2, g3⟩ := become_1 (o := 116) (M := M) (show n < 7 by omega) hal hc
        rw [g1, Bd_some, if_neg one_ne]
        dsimp only
        rw [next_spec n1 g2 hv8]
        obtain ⟨M4, q1, q2⟩ := refl M1 (by rw [g3 128 (by omega)]; exact m16)
        unfold f_X12_change at q1
        rw [if_pos hc] at q1
        have hpm8 : ∀ p, p < n → v (pm (alF v u n) p) < 8 := fun p hp => hv8 _ (pm_lt hc hp)
        have e1 := enc_b n1 hpm8
        have hiff := rowsEq (v := u) hpm8 hu8
        have hf : ∀ o j, ¬ Scrt o j → stA M4 137 (chR (alF v u n) n (M4 137)) o j = M o j := fun o j q => by
          unfold Scrt at q
          rw [stA_ne (by omega), q2 o (by omega) (by omega), g3 o (by omega)]
        by_cases e : figs n (fun p => v (pm (alF v u n) p)) = figs n u
        · rw [if_pos (show nI (enc n (fun p => v (pm (alF v u n) p))) = nI (enc n u) by rw [hiff.mpr e])]
          rw [if_pos e] at q1
          exact ⟨_, _, _, rfl, q1, Inv_tr hf hI⟩
        · rw [if_neg (show ¬ nI (enc n (fun p => v (pm (alF v u n) p))) = nI (enc n u) from fun q => e (hiff.mp (nI_inj (by omega) (by omega) q)))]
          rw [if_neg e] at q1
          exact ⟨_, _, _, rfl, q1, Inv_tr hf hI⟩
      · rw [become_0 (show n < 7 by omega) hal (by simpa using hc), Bd_some, if_pos rfl]
        obtain ⟨M4, q1, q2⟩ := refl M m16
        unfold f_X12_change at q1
        rw [if_neg hc] at q1
        refine ⟨_, _, _, rfl, q1, Inv_tr (fun o j q => ?_) hI⟩
        unfold Scrt at q
        rw [q2 o (by omega) (by omega)]
    · rw [cu, Bd_some, if_neg (nI_m1 (by omega)), if_pos rfl]
      obtain ⟨Ma, a1, a2, a3⟩ := rv M m16
      obtain ⟨Mb, b1, b3⟩ := ru Ma (by rw [a3 128 (by omega)]; exact m16)
      refine ⟨_, _, Mb, rfl, by rw [a1, Bd_some, if_neg one_ne, b1, Bd_some, if_pos rfl], Inv_tr (fun o j q => ?_) hI⟩
      unfold Scrt at q
      rw [b3 o (by omega), a3 o (by omega)]
  · rw [cv, Bd_some]
    obtain ⟨r4, hr4⟩ : ∃ r4, f_X5_fromFigures y (nI n) = some r4 := by
      rcases rowOf_cases n1 y with ⟨u, -, pu, rfl, cu, ru⟩ | ⟨cu, ru⟩
      · exact ⟨_, cu⟩
      · exact ⟨_, cu⟩
    rw [hr4, Bd_some, if_pos rfl]
    obtain ⟨Ma, a1, a3⟩ := rv M m16
    refine ⟨_, _, Ma, rfl, by rw [a1, Bd_some, if_pos rfl], Inv_tr (fun o j q => ?_) hI⟩
    unfold Scrt at q
    rw [a3 o (by omega)]
