/-! rows without a bell -/
theorem enc_split : ∀ (q m : Nat) (w : Nat → Nat), enc (q + m) w = enc q w + 8 ^ q * enc m (fun p => w (q + p))
  | 0, m, w => by
    rw [Nat.zero_add, Nat.pow_zero, Nat.one_mul]
    show enc m w = 0 + enc m (fun p => w (0 + p))
    rw [Nat.zero_add, enc_congr m w (fun p => w (0 + p)) (fun p _ => by rw [Nat.zero_add])]
  | q + 1, m, w => by
    have ih := enc_split q m (fun p => w (p + 1))
    rw [show q + 1 + m = (q + m) + 1 by omega, enc, ih, enc, Nat.pow_succ]
    rw [enc_congr m (fun p => w (q + p + 1)) (fun p => w (q + 1 + p)) (fun p _ => by rw [show q + p + 1 = q + 1 + p by omega])]
    rw [Nat.mul_add, Nat.mul_comm (8 ^ q) 8, Nat.mul_assoc, Nat.add_assoc]
def skp (q : Nat) (w : Nat → Nat) : Nat → Nat := fun p => if p < q then w p else w (p + 1)
theorem without_spec {n b q : Nat} {w : Nat → Nat} (hn : n ≤ 6) (h : prm n w) (hb : b < n) (hq : q < n) (hqb : w q = b) : f_X5_without (nI (enc n w)) (nI b) (nI n) = some (nI (enc (n - 1) (skp q w))) := by
  have h8 := prm8 hn h
  have e0 := enc_b hn h8
  have a1 := enc_lt q w (fun p hp => h8 p (by omega))
  have p8 : 2 ^ (3 * q) = 8 ^ q := by rw [Nat.pow_mul]
  have p9 : 2 ^ (3 * (q + 1)) = 8 ^ (q + 1) := by rw [Nat.pow_mul]
  have b8 : 8 ^ q ≤ 8 ^ 5 := Nat.pow_le_pow_right (by omega) (by omega)
  have hpos : 0 < 8 ^ q := Nat.pow_pos (by omega)
  have s1 : enc n w = enc q w + 8 ^ q * enc (n - q) (fun p => w (q + p)) := by
    have := enc_split q (n - q) w
    rw [show q + (n - q) = n by omega] at this
    exact this
  have s2 : enc n w = enc (q + 1) w + 8 ^ (q + 1) * enc (n - (q + 1)) (fun p => w (q + 1 + p)) := by
    have := enc_split (q + 1) (n - (q + 1)) w
    rw [show q + 1 + (n - (q + 1)) = n by omega] at this
    exact this
  have a2 := enc_lt (q + 1) w (fun p hp => h8 p (by omega))
  have hpos2 : 0 < 8 ^ (q + 1) := Nat.pow_pos (by omega)
  have m1 : enc n w % 8 ^ q = enc q w := by rw [s1, Nat.add_mul_mod_self_left, Nat.mod_eq_of_lt a1]
  have m2 : enc n w / 8 ^ (q + 1) = enc (n - (q + 1)) (fun p => w (q + 1 + p)) := by rw [s2, Nat.add_mul_div_left _ _ hpos2, Nat.div_eq_of_lt a2, Nat.zero_add]
  have s3 : enc (n - 1) (skp q w) = enc q w + 8 ^ q * enc (n - (q + 1)) (fun p => w (q + 1 + p)) := by
    have := enc_split q (n - (q + 1)) (skp q w)
    rw [show q + (n - (q + 1)) = n - 1 by omega] at this
    rw [this, enc_congr q (skp q w) w (fun p hp => by unfold skp; rw [if_pos hp]), enc_congr (n - (q + 1)) (fun p => skp q w (q + p)) (fun p => w (q + 1 + p)) (fun p _ => by
      show skp q w (q + p) = _
      unfold skp
      rw [if_neg (by omega), show q + p + 1 = q + 1 + p by omega])]
  have hE2 : 8 ^ q * enc (n - (q + 1)) (fun p => w (q + 1 + p)) ≤ enc n w := by
    rw [s2, Nat.pow_succ, Nat.mul_assoc]
    have : enc (n - (q + 1)) (fun p => w (q + 1 + p)) ≤ 8 * enc (n - (q + 1)) (fun p => w (q + 1 + p)) := by omega
    have := Nat.mul_le_mul_left (8 ^ q) this
    omega
  unfold f_X5_without
  simp only [Lt_eq]
  rw [placeOf_enc hn h8 hq (by omega) hqb (fun a ha e => by have := h.2 a q (by omega) hq (by rw [e, hqb]); omega), Bd_some, if_neg (nI_m1 (by omega)), nI_1, show (3 : Int32) * nI q = nI (3 * q) from pk_mul 3 q, show (3 : Int32) * nI (q + 1) = nI (3 * (q + 1)) from pk_mul 3 (q + 1), sl1b (by omega), show nI (2 ^ (3 * q)) - (1 : Int32) = nI (2 ^ (3 * q) - 1) from pk_sub (b := 1) (Nat.pow_pos (by omega)), nI_and, Nat.and_two_pow_sub_one_eq_mod, sr_nI (by omega) (by omega), p8, p9, m1, m2]
  rw [sl_nI (by omega) (by rw [p8, Nat.mul_comm]; omega), p8, nI_or, s3]
  have hor := Nat.two_pow_add_eq_or_of_lt (i := 3 * q) (b := enc q w) (by rw [p8]; exact a1) (enc (n - (q + 1)) (fun p => w (q + 1 + p)))
  rw [p8] at hor
  rw [Nat.or_comm, Nat.mul_comm _ (8 ^ q), ← hor, Nat.add_comm]
theorem withoutM_spec {n b q : Nat} {w : Nat → Nat} {M : Mm} (hn : n ≤ 6) (h : prm n w) (m16 : M 128 16 = nI n) (hr : ∀ p, p < n → M 137 (5 + p) = nI (w p)) (hb : b < n) (hq : q < n) (hqb : w q = b) : f_X12_without 128 (nI b) M = some (nI (figs (n - 1) (skp q w))) := by
  have h8 := prm8 hn h
  unfold f_X12_without
  have hs : ∀ i, i < n → b_X12_without_4 128 (nI b) M (nI (figs (if i ≤ q then i else i - 1) (skp q w)), nI i) = some (.inl (nI (figs (if i + 1 ≤ q then i + 1 else i + 1 - 1) (skp q w)), nI (i + 1))) := fun i hi => by
    have hwi := h8 i hi
    unfold b_X12_without_4
    simp only [Lt_eq]
    rw [if_neg (show ¬ M 128 16 ≤ nI i by rw [m16]; exact nI_ge hi (by omega)), show (5 : Int32) + nI i = nI (5 + i) from nI_add 5 i, Gd_t ((ib_nI (by omega)).mpr (by omega)), Gd_t ((ib_nI (by omega)).mpr (by omega)), ix_nI (by omega), nI_1]
    by_cases e : i = q
    · subst e
      rw [if_pos (show M 137 (5 + i) = nI b by rw [hr i hi, hqb]), Bd_some, if_pos (Nat.le_refl _), if_neg (by omega), show i + 1 - 1 = i by omega]
    · rw [if_neg (show ¬ M 137 (5 + i) = nI b by rw [hr i hi]; exact fun z => e (h.2 i q hi hq (by rw [hqb]; exact nI_inj (by omega) (by omega) z))), Bd_some, hr i hi, fig_step2]
      by_cases c : i + 1 ≤ q
      · rw [if_pos (show i ≤ q by omega), if_pos c]
        show _ = some (Sum.inl (nI (figs i (skp q w) * 10 + skp q w i + 1), _))
        rw [show skp q w i = w i by unfold skp; rw [if_pos (by omega)]]
      · rw [if_neg (show ¬ i ≤ q by omega), if_neg c]
        obtain ⟨i', rfl⟩ : ∃ i', i = i' + 1 := ⟨i - 1, by omega⟩
        rw [show i' + 1 - 1 = i' by omega, show i' + 1 + 1 - 1 = i' + 1 by omega]
        show _ = some (Sum.inl (nI (figs i' (skp q w) * 10 + skp q w i' + 1), _))
        rw [show skp q w i' = w (i' + 1) by unfold skp; rw [if_neg (by omega)]]
  have he : b_X12_without_4 128 (nI b) M (nI (figs (if n ≤ q then n else n - 1) (skp q w)), nI n) = some (.inr (nI (figs (n - 1) (skp q w)))) := by
    unfold b_X12_without_4
    rw [if_pos (show M 128 16 ≤ nI n by rw [m16]; exact nI_le (Nat.le_refl _) (by omega)), if_neg (by omega)]
  have h0 : ((0 : Int32), (0 : Int32)) = (nI (figs (if 0 ≤ q then 0 else 0 - 1) (skp q w)), nI 0) := by rw [if_pos (by omega)]; rfl
  exact Bd_Lp (s0 := ((0 : Int32), (0 : Int32))) (fun i => (nI (figs (if i ≤ q then i else i - 1) (skp q w)), nI i)) n _ h0 hs he (by omega)
theorem skp_lt {n q : Nat} {w : Nat → Nat} (h8 : ∀ p, p < n → w p < 8) : ∀ p, p < n - 1 → skp q w p < 8 := fun p hp => by
  unfold skp
  split
  · exact h8 p (by omega)
  · exact h8 (p + 1) (by omega)
def nwB (cR : Nat → Nat) (j : Nat) : Bool := decide (∀ q, q < j + 1 → ¬ cR q = cR (j + 1))
theorem op_gap {M : Mm} (b x : Int32) (h : InvX M) : ∃ r M1 M2, f_X11_gap 0 b x M = some (r, M1) ∧ f_X12_gap 128 b x M1 = some (r, M2) ∧ InvX M2 := by
  obtain ⟨t, n, k, ns, C, Me, W, S, E, hI⟩ := id h
  obtain ⟨ht, h00, hkd, t0, t1, t2⟩ := inv_t hI
  obtain ⟨m16, m17, m18, m19⟩ := inv_m hI
  obtain ⟨n1, n2, n3, n4, n5⟩ := inv_n hI
  obtain ⟨⟨hV, z0, z1, hT, hM⟩, ⟨hE, hC, hA⟩, -⟩ := id hI
  unfold f_X11_gap f_X12_gap
  simp only [h00, Gd_t hkd]
  rcases bell_cases n1 b with ⟨b, hb, rfl⟩ | ⟨q1, q2⟩
  · have hn' : 0 < n := by omega
    have he0 := hE.2.1
    rw [hasBell_spec t0 hb (by omega), if_neg one_ne]
    rcases rng_cases 1 500 (by omega) (by omega) x with ⟨m, m1, hm, rfl⟩ | hx
    · have hin : f_X12_in (nI m) (1 : Int32) (500 : Int32) = 1 := in_1 (lo := 1) (hi := 500) m1 hm (by omega)
      rw [if_neg (show ¬ nI m < (1 : Int32) from nI_nlt (b := 1) m1 (by omega)), if_pos (show nI m ≤ (500 : Int32) from nI_le (b := 500) hm (by omega))]
      have hEV : ∀ i, i < 800 → EV n k ns (rgI n k ns C Me W S E i) := fun i hi => EV_rgI hV hn' hE.1 i (by omega)
      have hprm : ∀ i, i < 800 → prm n (fun p => rgI n k ns C Me W S E i (5 + p)) := fun i hi => ⟨(hEV i hi).2.2.2.2.2.1, (hEV i hi).2.2.2.2.2.2.1⟩
      obtain ⟨pl, hpl⟩ : ∃ pl : Nat → Nat, ∀ i, i < 800 → pl i < n ∧ rgI n k ns C Me W S E i (5 + pl i) = b := by
        refine ⟨fun i => if hi : i < 800 then (surj n (fun p => rgI n k ns C Me W S E i (5 + p)) (hprm i hi).1 (hprm i hi).2 b hb).choose else 0, fun i hi => ?_⟩
        show (if hi : i < 800 then _ else 0) < n ∧ rgI n k ns C Me W S E i (5 + (if hi : i < 800 then _ else 0)) = b
        rw [dif_pos hi]
        exact (surj n (fun p => rgI n k ns C Me W S E i (5 + p)) (hprm i hi).1 (hprm i hi).2 b hb).choose_spec
      generalize hcC : (fun i => enc (n - 1) (skp (pl i) (fun p => rgI n k ns C Me W S E i (5 + p)))) = cC
      generalize hcR : (fun i => figs (n - 1) (skp (pl i) (fun p => rgI n k ns C Me W S E i (5 + p)))) = cR
      have hC1 : ∀ i, enc (n - 1) (skp (pl i) (fun p => rgI n k ns C Me W S E i (5 + p))) = cC i := fun i => by rw [← hcC]
      have hR1 : ∀ i, figs (n - 1) (skp (pl i) (fun p => rgI n k ns C Me W S E i (5 + p))) = cR i := fun i => by rw [← hcR]
      have hs8 : ∀ i, i < 800 → ∀ p, p < n - 1 → skp (pl i) (fun p => rgI n k ns C Me W S E i (5 + p)) p < 8 := fun i hi => skp_lt (prm8 n1 (hprm i hi))
      have hcl : ∀ i, i < 800 → cC i < 32768 := fun i hi => by
        rw [← hC1]
        have a1 := enc_lt (n - 1) _ (hs8 i hi)
        have a2 : 8 ^ (n - 1) ≤ 8 ^ 5 := Nat.pow_le_pow_right (by omega) (by omega)
        omega
      have hiff : ∀ i j, i < 800 → j < 800 → (cC i % 32768 = cC j % 32768 ↔ cR i = cR j) := fun i j hi hj => by
        rw [Nat.mod_eq_of_lt (hcl i hi), Nat.mod_eq_of_lt (hcl j hj), ← hC1, ← hC1, ← hR1, ← hR1]
        exact rowsEq (hs8 i hi) (hs8 j hj)
      have hRb : ∀ i, i < 800 → cR i < 2 ^ 31 := fun i hi => by
        rw [← hR1]
        have := figs_b (n := n - 1) (by omega) (fun p hp => by have := hs8 i hi p hp; show skp (pl i) (fun p => rgI n k ns C Me W S E i (5 + p)) p < 9; omega)
        omega
      obtain ⟨M1, g1, g2, g3⟩ := wt_copy hC hE.1
      obtain ⟨M2, r1, r2, r3⟩ := seen_clear (M := M1)
      have hs0 : SS (SPc cC 0) M2 := SS_iff (fun c _ => ⟨fun q => q.elim, fun ⟨i, hi, _⟩ => absurd hi (by omega)⟩) r2
      obtain ⟨M3, y1, y2, y3⟩ := (addC hs0).2 (fun i hi => absurd hi (by omega))
      have z2 : (M2 0 0).toNatClampNeg = t := by rw [r3 0 (by omega), g3 0 (by omega)]; exact h00
      have hw0 : f_X5_without (M2 115 0) (nI b) (M2 t 0) = some (nI (cC 0)) := by
        rw [r3 115 (by omega), g2.1, r3 t (by omega), g3 t (by omega), t0]
        exact (without_spec n1 (hprm 0 (by omega)) hb (hpl 0 (by omega)).1 (hpl 0 (by omega)).2).trans (by rw [hC1])
      rw [g1, Bd_some, r1, Bd_some]
      simp only [z2, Gd_t hkd]
      rw [hw0, Bd_some, y1, Bd_some]
      have y3' : ∀ o, o ≠ 110 → o ≠ 115 → M3 o = M o := fun o d1 d2 => by rw [y3 o d1, r3 o d1, g3 o d2]
      have keyC := Lp_inv (f := b_X11_gap_81 0 (nI b) (nI m)) (fun s => ∃ i, i ≤ m ∧ s.1 = nI (1 + cntL (nwB cR) i) ∧ s.2.1 = nI i ∧ WT n k (rgI n k ns C Me W S E i) (s.2.2 115) ∧ SS (SPc cC (i + 1)) s.2.2 ∧ ∀ o, o ≠ 110 → o ≠ 115 → s.2.2 o = M o) (fun s => m - s.2.1.toNatClampNeg) (fun r => r.1 = nI (1 + cntL (nwB cR) m) ∧ ∀ o, o ≠ 110 → o ≠ 115 → r.2 o = M o) (fun s hs => by
        obtain ⟨i, hi, hv, hx, hW, hS, hF⟩ := hs
        obtain ⟨v, x, Mi⟩ := s
        simp only at hv hx hW hS hF
        subst hx
        subst hv
        have z : (Mi 0 0).toNatClampNeg = t := by rw [hF 0 (by omega) (by omega)]; exact h00
        by_cases hin : i = m
        · subst hin
          exact Or.inr ⟨(nI (1 + cntL (nwB cR) i), Mi), by unfold b_X11_gap_81; rw [if_pos (nI_le (Nat.le_refl _) (by omega))], rfl, hF⟩
        · obtain ⟨Ms, q1, q2, q3⟩ := wt_step (TW_c hV (fun o ho => hF o (by omega) (by omega)) hT) hV hn' (hEV i (by omega)) hW
          have q2' : WT n k (rgI n k ns C Me W S E (i + 1)) (Ms 115) := q2
          have hS' : SS (SPc cC (i + 1)) Ms := SS_c (q3 110 (by omega)) hS
          have zs : (Ms 0 0).toNatClampNeg = t := by rw [q3 0 (by omega)]; exact z
          have hrow : f_X5_without (Ms 115 0) (nI b) (Ms t 0) = some (nI (cC (i + 1))) := by
            rw [q2'.1, q3 t (by omega), hF t (by omega) (by omega), t0, without_spec n1 (hprm (i + 1) (by omega)) hb (hpl (i + 1) (by omega)).1 (hpl (i + 1) (by omega)).2, hC1]
          have hbody : b_X11_gap_81 0 (nI b) (nI m) (nI (1 + cntL (nwB cR) i), nI i, Mi) = Bd (f_X6_add 109 (nI (cC (i + 1))) Ms) (fun r9 => some (.inl ((if r9.1 = 0 then nI (1 + cntL (nwB cR) i) else nI (1 + cntL (nwB cR) i) + 1), nI (i + 1), r9.2))) := by
            unfold b_X11_gap_81
            simp only [Lt_eq, z, Gd_t hkd]
            rw [if_neg (nI_ge (show i < m by omega) (by omega)), q1, Bd_some]
            simp only [zs, Gd_t hkd]
            rw [hrow, Bd_some, nI_1, nI_1]
          have hmu : m - (nI (i + 1)).toNatClampNeg < m - (nI i).toNatClampNeg := by
            rw [nI_clamp (by omega), nI_clamp (by omega)]
            omega
          obtain ⟨a1, a2⟩ := addC hS'
          by_cases hnw : ∀ q, q < i + 1 → ¬ cR q = cR (i + 1)
          · obtain ⟨Mn, b1, b2, b3⟩ := a2 (fun q hq e => hnw q hq ((hiff q (i + 1) (by omega) (by omega)).mp e))
            refine Or.inl ⟨(nI (1 + cntL (nwB cR) (i + 1)), nI (i + 1), Mn), ?_, ⟨i + 1, by omega, rfl, rfl, ?_, b2, fun o d1 d2 => ?_⟩, hmu⟩
            · rw [hbody, b1, Bd_some, if_neg one_ne, nI_1, cntL_s (P := nwB cR) (decide_eq_true hnw)]
              rfl
            · show WT n k _ (Mn 115)
              rw [b3 115 (by omega)]; exact q2'
            · show Mn o = M o
              rw [b3 o d1, q3 o d2, hF o d1 d2]
          · have hex : ∃ q, q < i + 1 ∧ cR q = cR (i + 1) := by
              apply Classical.byContradiction
              intro hno
              exact hnw (fun q hq e => hno ⟨q, hq, e⟩)
            obtain ⟨q, hq, e⟩ := hex
            obtain ⟨b1, b2⟩ := a1 ⟨q, hq, (hiff q (i + 1) (by omega) (by omega)).mpr e⟩
            refine Or.inl ⟨(nI (1 + cntL (nwB cR) (i + 1)), nI (i + 1), Ms), ?_, ⟨i + 1, by omega, rfl, rfl, q2', b2, fun o d1 d2 => ?_⟩, hmu⟩
            · rw [hbody, b1, Bd_some, if_pos rfl, cntL_n (P := nwB cR) (fun z => hnw (of_decide_eq_true z))]
            · show Ms o = M o
              rw [q3 o d2, hF o d1 d2]) 100000 ((1 : Int32), (0 : Int32), M3) ⟨0, by omega, rfl, rfl, by show WT n k E (M3 115); rw [y3 115 (by omega), r3 115 (by omega)]; exact g2, y2, y3'⟩ (by show m - _ < _; omega)
      obtain ⟨⟨v, MC⟩, k1, k2, k3⟩ := keyC
      simp only at k2 k3
      subst k2
      dsimp only
      rw [k1, Bd_some]
      obtain ⟨Mb, b1, b2, b3⟩ := begin_spec (M := MC) (AR_c (fun j => by rw [k3 136 (by omega) (by omega)]) hA)
      have b3' : ∀ o, o ≠ 110 → o ≠ 115 → o ≠ 137 → Mb o = M o := fun o d1 d2 d3 => (b3 o d3).trans (k3 o d1 d2)
      have hp0 : MPc cR 0 (st2 Mb 128 36 (0 : Int32)) := ⟨0, fun _ => 0, by omega, ⟨by rw [s2_eq]; rfl, fun i hi => absurd hi (by omega)⟩, fun a => ⟨fun ⟨j, hj, _⟩ => absurd hj (by omega), fun ⟨j, hj, _⟩ => absurd hj (by omega)⟩⟩
      have f3 : ∀ o j, ¬ (o = 110 ∨ o = 115 ∨ o = 137 ∨ (o = 128 ∧ j = 36)) → st2 Mb 128 36 (0 : Int32) o j = M o j := fun o j q => by rw [s2_at, if_neg (by omega), b3' o (by omega) (by omega) (by omega)]
      have hA3 : AR E (st2 Mb 128 36 (0 : Int32) 137) := by rw [s2_ne (by omega)]; exact b2
      obtain ⟨M5, p1, p2, p3⟩ := (addM (by omega) (hRb 0 (by omega)) hp0).2 (fun i hi => absurd hi (by omega))
      have f5 : ∀ o j, ¬ (o = 110 ∨ o = 115 ∨ o = 137 ∨ o = 144 ∨ (o = 128 ∧ j = 36)) → M5 o j = M o j := fun o j q => by rw [p3 o j (by omega), f3 o j (by omega)]
      have hA5 : AR E (M5 137) := AR_c (fun j => p3 137 j (by omega)) hA3
      have keyM := Lp_inv (f := b_X12_gap_55 128 (nI b) (nI m)) (fun s => ∃ i, i ≤ m ∧ s.1 = nI (1 + cntL (nwB cR) i) ∧ s.2.1 = nI i ∧ AR (rgI n k ns C Me W S E i) (s.2.2 137) ∧ MPc cR (i + 1) s.2.2 ∧ ∀ o j, ¬ (o = 110 ∨ o = 115 ∨ o = 137 ∨ o = 144 ∨ (o = 128 ∧ j = 36)) → s.2.2 o j = M o j) (fun s => m - s.2.1.toNatClampNeg) (fun r => r.1 = nI (1 + cntL (nwB cR) m) ∧ ∀ o j, ¬ (o = 110 ∨ o = 115 ∨ o = 137 ∨ o = 144 ∨ (o = 128 ∧ j = 36)) → r.2 o j = M o j) (fun s hs => by
        obtain ⟨i, hi, hv, hx, hW, hP, hF⟩ := hs
        obtain ⟨v, x, Mi⟩ := s
        simp only at hv hx hW hP hF
        subst hx
        subst hv
        by_cases hin : i = m
        · subst hin
          exact Or.inr ⟨(nI (1 + cntL (nwB cR) i), Mi), by unfold b_X12_gap_55; rw [if_pos (nI_le (Nat.le_refl _) (by omega))], rfl, hF⟩
        · have hMi : MT n k ns C Me W S Mi := MT_p (fun o j q => hF o j (by omega)) hM
          obtain ⟨Ms, q1, q2, q3⟩ := goOn_spec (m := 1) hMi hV hn' (hEV i (by omega)) (by rw [rgI_0]; omega) hW
          have q2' : AR (rgI n k ns C Me W S E (i + 1)) (Ms 137) := q2
          have fs : ∀ o j, ¬ (o = 110 ∨ o = 115 ∨ o = 137 ∨ o = 144 ∨ (o = 128 ∧ j = 36)) → Ms o j = M o j := fun o j q => by rw [q3 o (by omega), hF o j q]
          have hP' : MPc cR (i + 1) Ms := by
            obtain ⟨mm, v, e1, ⟨e2, e3⟩, e4⟩ := hP
            exact ⟨mm, v, e1, ⟨by rw [q3 128 (by omega)]; exact e2, fun j hj => by rw [q3 144 (by omega)]; exact e3 j hj⟩, e4⟩
          have hbody : b_X12_gap_55 128 (nI b) (nI m) (nI (1 + cntL (nwB cR) i), nI i, Mi) = Bd (f_X12_isNew 128 (nI (cR (i + 1))) Ms) (fun r9 => some (.inl (nI (1 + cntL (nwB cR) i) + (if r9.1 = 0 then (0 : Int32) else (1 : Int32)), nI (i + 1), r9.2))) := by
            unfold b_X12_gap_55
            simp only [Lt_eq]
            rw [if_neg (nI_ge (show i < m by omega) (by omega)), show f_X12_goOn 128 (1 : Int32) Mi = some Ms from q1, Bd_some, withoutM_spec n1 (hprm (i + 1) (by omega)) (by rw [fs 128 16 (by omega)]; exact m16) (fun p hp => q2' (5 + p) (by omega)) hb (hpl (i + 1) (by omega)).1 (hpl (i + 1) (by omega)).2, Bd_some, hR1, nI_1]
          have hmu : m - (nI (i + 1)).toNatClampNeg < m - (nI i).toNatClampNeg := by
            rw [nI_clamp (by omega), nI_clamp (by omega)]
            omega
          obtain ⟨a1, a2⟩ := addM (by omega) (hRb (i + 1) (by omega)) hP'
          by_cases hnw : ∀ q, q < i + 1 → ¬ cR q = cR (i + 1)
          · obtain ⟨Mn, b1, b2, b3⟩ := a2 hnw
            refine Or.inl ⟨(nI (1 + cntL (nwB cR) (i + 1)), nI (i + 1), Mn), ?_, ⟨i + 1, by omega, rfl, rfl, AR_c (fun j => b3 137 j (by omega)) q2', b2, fun o j q => ?_⟩, hmu⟩
            · rw [hbody, b1, Bd_some, if_neg one_ne, nI_1, cntL_s (P := nwB cR) (decide_eq_true hnw)]
              rfl
            · show Mn o j = M o j
              rw [b3 o j (by omega), fs o j q]
          · have hex : ∃ q, q < i + 1 ∧ cR q = cR (i + 1) := by
              apply Classical.byContradiction
              intro hno
              exact hnw (fun q hq e => hno ⟨q, hq, e⟩)
            obtain ⟨b1, b2⟩ := a1 hex
            refine Or.inl ⟨(nI (1 + cntL (nwB cR) (i + 1)), nI (i + 1), Ms), ?_, ⟨i + 1, by omega, rfl, rfl, q2', b2, fs⟩, hmu⟩
            rw [hbody, b1, Bd_some, if_pos rfl, show nI (1 + cntL (nwB cR) i) + (0 : Int32) = nI (1 + cntL (nwB cR) i + 0) from nI_add _ 0, Nat.add_zero, cntL_n (P := nwB cR) (fun z => hnw (of_decide_eq_true z))]) 100000 ((1 : Int32), (0 : Int32), M5) ⟨0, by omega, rfl, rfl, hA5, p2, f5⟩ (by show m - _ < _; omega)
      obtain ⟨⟨v, MM⟩, w1, w2, w3⟩ := keyM
      simp only at w2 w3
      subst w2
      refine ⟨_, MC, MM, rfl, ?_, Inv_tr (fun o j q => ?_) hI⟩
      · rw [isBell_1 n1 hb (by rw [k3 128 (by omega) (by omega)]; exact m16), if_neg one_ne, hin, if_neg one_ne, b1, Bd_some, Lt_eq, withoutM_spec n1 (hprm 0 (by omega)) (by rw [f3 128 16 (by omega)]; exact m16) (fun p hp => hA3 (5 + p) (by omega)) hb (hpl 0 (by omega)).1 (hpl 0 (by omega)).2, Bd_some, hR1, p1, Bd_some, Lt_eq]
        dsimp only
        rw [if_neg one_ne, w1, Bd_some]
      · unfold Scrt at q
        rw [w3 o j (by omega)]
    · have hin : f_X12_in x (1 : Int32) (500 : Int32) = 0 := in_0 (lo := 1) (hi := 500) hx
      rcases hx with hx | ⟨q1, q2, q3⟩
      · rw [if_pos (show x < (1 : Int32) from hx)]
        exact ⟨_, _, _, rfl, by rw [isBell_1 n1 hb m16, if_neg one_ne, hin, if_pos rfl], h⟩
      · rw [if_neg (show ¬ x < (1 : Int32) from q1), if_neg (show ¬ x ≤ (500 : Int32) from q3)]
        exact ⟨_, _, _, rfl, by rw [isBell_1 n1 hb m16, if_neg one_ne, hin, if_pos rfl], h⟩
  · rw [q1 t M t0, if_pos rfl]
    exact ⟨_, _, _, rfl, by rw [q2 M m16, if_pos rfl], h⟩
