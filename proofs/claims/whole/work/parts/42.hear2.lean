/-- the class's trial walk along the plain method -/
theorem plain_spec {t n k ns C m : Nat} {Me W S : Nat → Nat} {M : Mm} (h0 : M 0 0 = nI t) (hT : TW t n k ns C Me W S M) (hV : TV n k ns C Me W S) (hn : 0 < n) (hm : m ≤ 500) : ∃ M', f_X11_plainRowBehind 0 (nI m) M = some (nI (enc n (plR k Me m)), M') ∧ ∀ o, o ≠ 115 → M' o = M o := by
  have ht := hT.1
  have hb := hV.1
  obtain ⟨M0, g1, g2, g3⟩ := wbegin_spec (wo := 115) hT.2.1 (show n ≤ 6 by omega)
  have hp := prm_plR (n := n) (k := k) (Me := Me) (by omega) (fun j hj => (hV.2.2.2.1 j hj).2)
  have key := Lp_inv (f := b_X11_stepTrial_2 0 (nI m)) (fun s => ∃ i, i ≤ m ∧ s.1 = nI i ∧ WKr n (plR k Me i) (i % k) 0 (s.2 115) ∧ ∀ o, o ≠ 115 → s.2 o = M o) (fun s => m - s.1.toNatClampNeg) (fun t => WKr n (plR k Me m) (m % k) 0 (t 115) ∧ ∀ o, o ≠ 115 → t o = M o) (fun s hs => by
    obtain ⟨i, hi, hx, hW, hF⟩ := hs
    obtain ⟨x, Mi⟩ := s
    simp only at hx hW hF
    subst hx
    have z : (Mi 0 0).toNatClampNeg = t := by rw [hF 0 (by omega)]; exact tw_ref h0 ht
    by_cases hin : i = m
    · subst hin
      exact Or.inr ⟨Mi, by unfold b_X11_stepTrial_2; rw [if_pos (nI_le (Nat.le_refl _) (by omega))], hW, hF⟩
    · obtain ⟨M1, q1, ⟨q2, q3, q4⟩, q5⟩ := step_spec (wo := 115) (TW_c hV (fun o ho => hF o (by omega)) hT) hV hn hW (Nat.mod_lt _ (by omega)) (by omega) (prm8 (by omega) (hp i)) (by omega)
      refine Or.inl ⟨(nI (i + 1), M1), ?_, ⟨i + 1, by omega, rfl, ⟨?_, ?_, q4⟩, fun o ho => (q5 o ho).trans (hF o ho)⟩, ?_⟩
      · unfold b_X11_stepTrial_2
        simp only [Lt_eq, z, Gd_t (kd_tw ht)]
        rw [if_neg (nI_ge (show i < m by omega) (by omega)), q1, Bd_some, nI_1]
      · show M1 115 0 = _
        rw [q2]
        rfl
      · show M1 115 1 = _
        rw [q3, nxc_mod (by omega)]
      · show m - (nI (i + 1)).toNatClampNeg < m - (nI i).toNatClampNeg
        rw [nI_clamp (by omega), nI_clamp (by omega)]
        omega) 100000 ((0 : Int32), M0) ⟨0, by omega, rfl, ⟨g2.1, by rw [Nat.zero_mod]; exact g2.2.1, g2.2.2⟩, g3⟩ (by show m - _ < _; omega)
  obtain ⟨M1, r1, r2, r3⟩ := key
  unfold f_X11_plainRowBehind f_X11_stepTrial
  simp only [tw_ref h0 ht, Gd_t (kd_tw ht)]
  rw [g1, Bd_some, r1, Bd_some, Bd_some]
  dsimp only
  rw [r2.1]
  exact ⟨M1, rfl, r3⟩
theorem hearAs_spec {t n k x m : Nat} {Me : Nat → Nat} {v : Nat → Nat} {hh : Nat} {M : Mm} (hn6 : n ≤ 6) (ht : t = 1 ∨ t = 18) (t0 : M t 0 = nI n) (hp : prm n (plR k Me m)) (hv : prm n v) (hx : x < 64) (h0 : M 117 0 = nI hh) (h1 : M 117 1 = nI x) : ∃ M', f_X2_hearAs 117 (nI (enc n (plR k Me m))) (nI (enc n v)) t M = some M' ∧ M' 117 0 = nI (hh + 1) ∧ M' 117 1 = nI (clrB n k Me m (figs n v) x n) ∧ ∀ o j, ¬ (o = 117 ∧ j ≤ 1) → M' o j = M o j := by
  unfold f_X2_hearAs
  simp only [Lt_eq]
  rw [h0, nI_1]
  have key := Lp_inv (f := b_X2_hearAs_13 117 (nI (enc n (plR k Me m))) (nI (enc n v)) t) (fun s => ∃ b, b ≤ n ∧ s.1 = nI b ∧ s.2 117 0 = nI (hh + 1) ∧ s.2 117 1 = nI (clrB n k Me m (figs n v) x b) ∧ ∀ o j, ¬ (o = 117 ∧ j ≤ 1) → s.2 o j = M o j) (fun s => n - s.1.toNatClampNeg) (fun t => t 117 0 = nI (hh + 1) ∧ t 117 1 = nI (clrB n k Me m (figs n v) x n) ∧ ∀ o j, ¬ (o = 117 ∧ j ≤ 1) → t o j = M o j) (fun s hs => by
    obtain ⟨b, hb, hy, hz, hc, hF⟩ := hs
    obtain ⟨y, Mi⟩ := s
    simp only at hy hz hc hF
    subst hy
    have f0 : Mi t 0 = nI n := by rw [hF t 0 (by omega)]; exact t0
    by_cases hin : b = n
    · subst hin
      exact Or.inr ⟨Mi, by unfold b_X2_hearAs_13; rw [if_pos (show Mi t 0 ≤ nI b by rw [f0]; exact nI_le (Nat.le_refl _) (by omega))], hz, hc, hF⟩
    · have hbl : b < n := by omega
      have e1 := enc_b hn6 (ltR_lt hn6 hp hbl)
      have e2 := enc_b hn6 (prm8 hn6 hv)
      have hiff := rowsEq (ltR_lt hn6 hp hbl) (prm8 hn6 hv)
      have hx64 : clrB n k Me m (figs n v) x b < 64 := Nat.lt_of_le_of_lt (clrB_le b) hx
      have hstep : b_X2_hearAs_13 117 (nI (enc n (plR k Me m))) (nI (enc n v)) t (nI b, Mi) = if figs n (ltR n b (plR k Me m)) = figs n v then some (.inl (nI (b + 1), Mi)) else some (.inl (nI (b + 1), st2 Mi 117 1 (nI (clrB n k Me m (figs n v) x b &&& (63 ^^^ 2 ^ b))))) := by
        unfold b_X2_hearAs_13
        simp only [Lt_eq]
        rw [if_neg (show ¬ Mi t 0 ≤ nI b by rw [f0]; exact nI_ge hbl (by omega)), f0, withLate_spec hn6 hp hbl, Bd_some, hc, clr_spec _ hx64 b (by omega)]
        by_cases e : figs n (ltR n b (plR k Me m)) = figs n v
        · rw [if_pos (show nI (enc n (ltR n b (plR k Me m))) = nI (enc n v) by rw [hiff.mpr e]), if_pos e, Bd_some, nI_1]
        · rw [if_neg (show ¬ nI (enc n (ltR n b (plR k Me m))) = nI (enc n v) from fun q => e (hiff.mp (nI_inj (by omega) (by omega) q))), if_neg e, Bd_some, nI_1]
      have hmu : n - (nI (b + 1)).toNatClampNeg < n - (nI b).toNatClampNeg := by
        rw [nI_clamp (by omega), nI_clamp (by omega)]
        omega
      by_cases e : figs n (ltR n b (plR k Me m)) = figs n v
      · rw [if_pos e] at hstep
        refine Or.inl ⟨_, hstep, ⟨b + 1, by omega, rfl, hz, ?_, hF⟩, hmu⟩
        show Mi 117 1 = nI (if figs n (ltR n b (plR k Me m)) = figs n v then clrB n k Me m (figs n v) x b else clrB n k Me m (figs n v) x b &&& (63 ^^^ 2 ^ b))
        rw [if_pos e, hc]
      · rw [if_neg e] at hstep
        refine Or.inl ⟨_, hstep, ⟨b + 1, by omega, rfl, ?_, ?_, fun o j q => ?_⟩, hmu⟩
        · show st2 Mi 117 1 (nI (clrB n k Me m (figs n v) x b &&& (63 ^^^ 2 ^ b))) 117 0 = _
          rw [s2_nk (by omega), hz]
        · show st2 Mi 117 1 (nI (clrB n k Me m (figs n v) x b &&& (63 ^^^ 2 ^ b))) 117 1 = nI (if figs n (ltR n b (plR k Me m)) = figs n v then clrB n k Me m (figs n v) x b else clrB n k Me m (figs n v) x b &&& (63 ^^^ 2 ^ b))
          rw [if_neg e, s2_eq]
        · show st2 Mi 117 1 (nI (clrB n k Me m (figs n v) x b &&& (63 ^^^ 2 ^ b))) o j = _
          rw [s2_at, if_neg (by omega)]
          exact hF o j q) 100000 ((0 : Int32), st2 M 117 0 (nI (hh + 1))) ⟨0, by omega, rfl, by show st2 M 117 0 (nI (hh + 1)) 117 0 = nI (hh + 1); rw [s2_eq], by show st2 M 117 0 (nI (hh + 1)) 117 1 = nI x; rw [s2_nk (by omega)]; exact h1, fun o j q => by show st2 M 117 0 (nI (hh + 1)) o j = _; rw [s2_at, if_neg (by omega)]⟩ (by show n - _ < _; omega)
  obtain ⟨M', g1, g2⟩ := key
  rw [g1, Bd_some]
  exact ⟨M', rfl, g2⟩
theorem lateF_congr {n k : Nat} {Me N R N' R' : Nat → Nat} : ∀ h, (∀ i, i < h → N i = N' i ∧ R i = R' i) → lateF n k Me N R h = lateF n k Me N' R' h
  | 0, _ => rfl
  | h + 1, e => by
    show clrB n k Me (N h) (R h) (lateF n k Me N R h) n = clrB n k Me (N' h) (R' h) (lateF n k Me N' R' h) n
    rw [(e h (by omega)).1, (e h (by omega)).2, lateF_congr h (fun i hi => e i (by omega))]
theorem op_hear {M : Mm} (x y : Int32) (h : InvX M) : ∃ r M1 M2, f_X11_hear 0 x y M = some (r, M1) ∧ f_X12_hear 128 x y M1 = some (r, M2) ∧ InvX M2 := by
  obtain ⟨t, n, k, ns, C, Me, W, S, E, hI⟩ := id h
  obtain ⟨ht, h00, hkd, t0, t1, t2⟩ := inv_t hI
  obtain ⟨m16, m17, m18, m19⟩ := inv_m hI
  obtain ⟨n1, n2, n3, n4, n5⟩ := inv_n hI
  obtain ⟨⟨hV, z0, z1, hT, hM⟩, c2, c3, c4, c5, c6, c7, ⟨hh, N, R, x1, x2, x3, x4, x5, x6⟩, c9⟩ := id hI
  unfold f_X11_hear f_X12_hear
  simp only [h00, Gd_t hkd]
  rw [t0]
  rcases rng_cases 0 500 (by omega) (by omega) x with ⟨m, -, hm, rfl⟩ | hx
  · have hin : f_X12_in (nI m) (0 : Int32) (500 : Int32) = 1 := in_1 (lo := 0) (hi := 500) (by omega) hm (by omega)
    rcases rowOf_cases n1 y with ⟨v, hn, pv, rfl, cv, rv⟩ | ⟨cv, rv⟩
    · have ev := enc_b n1 (prm8 n1 pv)
      have fv := figs_b n1 (prm9 n1 pv)
      rw [cv, Bd_some, if_neg (nI_lt0 (by omega)), if_neg (show ¬ (500 : Int32) < nI m from nI_nlt (a := 500) hm (by omega)), if_neg (nI_m1 (by omega)), x3]
      by_cases h6 : hh = 6
      · subst h6
        rw [if_neg (show ¬ nI 6 < (6 : Int32) by decide)]
        obtain ⟨Ma, a1, a2, a3⟩ := rv M m16
        refine ⟨_, _, Ma, rfl, ?_, Inv_tr (fun o j q => ?_) hI⟩
        · rw [hin, if_neg one_ne, a1, Bd_some, if_neg one_ne, if_pos (show Ma 128 31 = (6 : Int32) by rw [a3 128 (by omega)]; exact x4)]
        · unfold Scrt at q
          rw [a3 o (by omega)]
      · have hh6 : hh < 6 := by omega
        rw [if_pos (show nI hh < (6 : Int32) from nI_lt (b := 6) hh6 (by omega))]
        obtain ⟨M1, g1, g3⟩ := plain_spec (m := m) z0 hT hV hn hm
        have q00 : (M1 0 0).toNatClampNeg = t := by rw [g3 0 (by omega)]; exact h00
        have hp := prm_plR (n := n) (k := k) (Me := Me) (n4 hn).2 (fun j hj => (hV.2.2.2.1 j hj).2) m
        rw [g1, Bd_some]
        simp only [q00, Gd_t hkd]
        obtain ⟨M2, r1, r2, r3, r4⟩ := hearAs_spec (M := M1) (hh := hh) n1 ht (by rw [g3 t (by omega)]; exact t0) hp pv (lateF_lt (h := hh) n1) (by rw [g3 117 (by omega)]; exact x3) (by rw [g3 117 (by omega)]; exact x5)
        rw [r1, Bd_some, r2]
        have f2 : ∀ o j, ¬ (o = 115 ∨ (o = 117 ∧ j ≤ 1)) → M2 o j = M o j := fun o j q => by rw [r4 o j (by omega), g3 o (by omega)]
        obtain ⟨Ma, a1, a2, a3⟩ := rv M2 (by rw [f2 _ _ (by omega)]; exact m16)
        have f3 : ∀ o j, ¬ (o = 115 ∨ o = 137 ∨ (o = 117 ∧ j ≤ 1)) → Ma o j = M o j := fun o j q => by rw [a3 o (by omega), f2 o j (by omega)]
        have e31 : Ma 128 31 = nI hh := by rw [f3 _ _ (by omega)]; exact x4
        generalize hM4 : st2 (st2 (st2 Ma 142 (2 * hh) (nI m)) 142 (2 * hh + 1) (nI (figs n v))) 128 31 (nI (hh + 1)) = M4
        have f4 : ∀ o j, ¬ (o = 115 ∨ o = 137 ∨ (o = 117 ∧ j ≤ 1) ∨ (o = 142 ∧ (j = 2 * hh ∨ j = 2 * hh + 1)) ∨ (o = 128 ∧ j = 31)) → M4 o j = M o j := fun o j q => by rw [← hM4, s2_at, if_neg (by omega), s2_at, if_neg (by omega), s2_at, if_neg (by omega), f3 o j (by omega)]
        refine ⟨nI (hh + 1), M2, M4, rfl, ?_, t, n, k, ns, C, Me, W, S, E, IT_c (fun o j q => f4 o j (by omega)) ⟨hV, z0, z1, hT, hM⟩, IE_c (fun o j q => f4 o j (by omega)) c2, IX_c (fun o j q => f4 o j (by omega)) c3, IF_c (fun o j q => f4 o j (by omega)) c4, IS_c (fun o j q => f4 o j (by omega)) c5, IB_c (fun o j q => f4 o j (by omega)) c6, II_c (fun o j q => f4 o j (by omega)) c7, ⟨hh + 1, fun i => if i = hh then m else N i, fun i => if i = hh then figs n v else R i, by omega, fun q => by omega, ?_, ?_, ?_, fun i hi => ?_⟩, IW_c (fun o j q => f4 o j (by omega)) c9⟩
        · rw [hin, if_neg one_ne, a1, Bd_some, if_neg one_ne]
          dsimp only
          simp only [e31, show (2 : Int32) * nI hh = nI (2 * hh) from pk_mul 2 hh]
          rw [if_neg (show ¬ nI hh = (6 : Int32) from fun q => h6 (nI_inj (b := 6) (by omega) (by omega) q)), Gd_t ((ib_nI (by omega)).mpr (by omega)), ix_nI (by omega)]
          simp only [Lt_eq]
          have e31b : st2 Ma 142 (2 * hh) (nI m) 128 31 = nI hh := by rw [s2_ne (by omega), e31]
          have e32 : (2 : Int32) * st2 Ma 142 (2 * hh) (nI m) 128 31 + 1 = nI (2 * hh + 1) := by rw [e31b, show (2 : Int32) * nI hh = nI (2 * hh) from pk_mul 2 hh, nI_1]
          simp only [e32]
          rw [Gd_t ((ib_nI (by omega)).mpr (by omega)), ix_nI (by omega), s2_ne (show 128 ≠ 142 by omega), s2_ne (show 128 ≠ 142 by omega), e31, nI_1, s2_eq, hM4]
        · rw [← hM4, s2_ne (by omega), s2_ne (by omega), s2_ne (by omega), a3 _ (by omega), r2]
        · rw [← hM4, s2_eq]
        · rw [← hM4, s2_ne (by omega), s2_ne (by omega), s2_ne (by omega), a3 _ (by omega), r3]
          show _ = nI (clrB n k Me (if hh = hh then m else N hh) (if hh = hh then figs n v else R hh) (lateF n k Me (fun i => if i = hh then m else N i) (fun i => if i = hh then figs n v else R i) hh) n)
          rw [if_pos rfl, if_pos rfl, lateF_congr (N' := fun i => if i = hh then m else N i) (R' := fun i => if i = hh then figs n v else R i) hh (fun i hi => ⟨by show N i = if i = hh then m else N i; rw [if_neg (by omega)], by show R i = if i = hh then figs n v else R i; rw [if_neg (by omega)]⟩)]
        · by_cases hi2 : i = hh
          · subst hi2
            simp only [↓reduceIte]
            exact ⟨hm, fv, by rw [← hM4, s2_ne (by omega), s2_nk (by omega), s2_eq], by rw [← hM4, s2_ne (by omega), s2_eq]⟩
          · simp only [if_neg hi2]
            obtain ⟨u1, u2, u3, u4⟩ := x6 i (by omega)
            exact ⟨u1, u2, by rw [f4 _ _ (by omega)]; exact u3, by rw [f4 _ _ (by omega)]; exact u4⟩
    · rw [cv, Bd_some, if_neg (nI_lt0 (by omega)), if_neg (show ¬ (500 : Int32) < nI m from nI_nlt (a := 500) hm (by omega)), if_pos rfl]
      obtain ⟨Ma, a1, a3⟩ := rv M m16
      refine ⟨_, _, Ma, rfl, by rw [hin, if_neg one_ne, a1, Bd_some, if_pos rfl], Inv_tr (fun o j q => ?_) hI⟩
      unfold Scrt at q
      rw [a3 o (by omega)]
  · have hin : f_X12_in x (0 : Int32) (500 : Int32) = 0 := in_0 (lo := 0) (hi := 500) hx
    obtain ⟨r4, hr4⟩ : ∃ r4, f_X5_fromFigures y (nI n) = some r4 := by
      rcases rowOf_cases n1 y with ⟨u, -, pu, rfl, cu, ru⟩ | ⟨cu, ru⟩
      · exact ⟨_, cu⟩
      · exact ⟨_, cu⟩
    rw [hr4, Bd_some]
    rcases hx with hx | ⟨q1, q2, q3⟩
    · rw [if_pos (show x < 0 from hx)]
      exact ⟨_, _, _, rfl, by rw [hin, if_pos rfl], h⟩
    · rw [if_neg (show ¬ x < 0 from q1), if_pos (show (500 : Int32) < x from q2)]
      exact ⟨_, _, _, rfl, by rw [hin, if_pos rfl], h⟩
