def cntL (P : Nat → Bool) : Nat → Nat
  | 0 => 0
  | i + 1 => cntL P i + if P i = true then 1 else 0
def lsB (n k ns C : Nat) (Me W S E : Nat → Nat) (b j : Nat) : Bool := decide (rgI n k ns C Me W S E (j + 1) (5 + (n - 1)) = b)
theorem cntL_s {P : Nat → Bool} {i : Nat} (h : P i = true) : cntL P (i + 1) = cntL P i + 1 := by
  show cntL P i + (if P i = true then 1 else 0) = _
  rw [if_pos h]
theorem cntL_n {P : Nat → Bool} {i : Nat} (h : ¬ P i = true) : cntL P (i + 1) = cntL P i := by
  show cntL P i + (if P i = true then 1 else 0) = _
  rw [if_neg h, Nat.add_zero]
theorem op_last {M : Mm} (b x : Int32) (h : InvX M) : ∃ r M1 M2, f_X11_last 0 b x M = some (r, M1) ∧ f_X12_last 128 b x M1 = some (r, M2) ∧ InvX M2 := by
  obtain ⟨t, n, k, ns, C, Me, W, S, E, hI⟩ := id h
  obtain ⟨ht, h00, hkd, t0, t1, t2⟩ := inv_t hI
  obtain ⟨m16, m17, m18, m19⟩ := inv_m hI
  obtain ⟨n1, n2, n3, n4, n5⟩ := inv_n hI
  obtain ⟨⟨hV, z0, z1, hT, hM⟩, ⟨hE, hC, hA⟩, -⟩ := id hI
  unfold f_X11_last f_X12_last
  simp only [h00, Gd_t hkd]
  rcases bell_cases n1 b with ⟨b, hb, rfl⟩ | ⟨q1, q2⟩
  · have hn : 0 < n := by omega
    have he0 := hE.2.1
    rw [hasBell_spec t0 hb (by omega), if_neg one_ne]
    rcases rng_cases 1 500 (by omega) (by omega) x with ⟨m, m1, hm, rfl⟩ | hx
    · have hin : f_X12_in (nI m) (1 : Int32) (500 : Int32) = 1 := in_1 (lo := 1) (hi := 500) m1 hm (by omega)
      rw [if_neg (show ¬ nI m < (1 : Int32) from nI_nlt (b := 1) m1 (by omega)), if_pos (show nI m ≤ (500 : Int32) from nI_le (b := 500) hm (by omega))]
      obtain ⟨M1, g1, g2, g3⟩ := wt_copy hC hE.1
      rw [g1, Bd_some]
      have h8 : ∀ i, i ≤ 500 → ∀ p, p < n → rgI n k ns C Me W S E i (5 + p) < 8 := fun i hi p hp => by have := (EV_rgI hV hn hE.1 i (by omega)).2.2.2.2.2.1 p hp; omega
      have keyC := Lp_inv (f := b_X11_last_48 0 (nI b) (nI m)) (fun s => ∃ i, i ≤ m ∧ s.1 = nI (cntL (lsB n k ns C Me W S E b) i) ∧ s.2.1 = nI i ∧ WT n k (rgI n k ns C Me W S E i) (s.2.2 115) ∧ ∀ o, o ≠ 115 → s.2.2 o = M o) (fun s => m - s.2.1.toNatClampNeg) (fun t => t.1 = nI (cntL (lsB n k ns C Me W S E b) m) ∧ ∀ o, o ≠ 115 → t.2 o = M o) (fun s hs => by
        obtain ⟨i, hi, hv, hx, hW, hF⟩ := hs
        obtain ⟨v, x, Mi⟩ := s
        simp only at hv hx hW hF
        subst hx
        subst hv
        have z : (Mi 0 0).toNatClampNeg = t := by rw [hF 0 (by omega)]; exact h00
        by_cases hin : i = m
        · subst hin
          exact Or.inr ⟨(nI (cntL (lsB n k ns C Me W S E b) i), Mi), by unfold b_X11_last_48; rw [if_pos (nI_le (Nat.le_refl _) (by omega))], rfl, hF⟩
        · obtain ⟨M2, r1, r2, r3⟩ := wt_step (TW_c hV (fun o ho => hF o (by omega)) hT) hV hn (EV_rgI hV hn hE.1 i (by omega)) hW
          have hf2 : ∀ o, o ≠ 115 → M2 o = M o := fun o ho => (r3 o ho).trans (hF o ho)
          have z2 : (M2 0 0).toNatClampNeg = t := by rw [hf2 0 (by omega)]; exact h00
          have z3 : M2 t 0 = nI n := by rw [hf2 t (by omega)]; exact t0
          have r2' : WT n k (rgI n k ns C Me W S E (i + 1)) (M2 115) := r2
          refine Or.inl ⟨(nI (cntL (lsB n k ns C Me W S E b) (i + 1)), nI (i + 1), M2), ?_, ⟨i + 1, by omega, rfl, rfl, r2', hf2⟩, ?_⟩
          · unfold b_X11_last_48
            simp only [Lt_eq, z, Gd_t hkd]
            rw [if_neg (nI_ge (show i < m by omega) (by omega)), r1, Bd_some]
            simp only [z2, Gd_t hkd]
            rw [z3, r2'.1, show nI n - (1 : Int32) = nI (n - 1) from pk_sub (b := 1) (by omega), bellIn_enc n1 (h8 (i + 1) (by omega)) (show n - 1 < n by omega)]
            have hlt := h8 (i + 1) (by omega) (n - 1) (by omega)
            by_cases e : rgI n k ns C Me W S E (i + 1) (5 + (n - 1)) = b
            · rw [if_pos (show nI (rgI n k ns C Me W S E (i + 1) (5 + (n - 1))) = nI b by rw [e]), nI_1, nI_1, cntL_s (P := lsB n k ns C Me W S E b) (decide_eq_true e)]
            · rw [if_neg (show ¬ nI (rgI n k ns C Me W S E (i + 1) (5 + (n - 1))) = nI b from fun q => e (nI_inj (by omega) (by omega) q)), nI_1, cntL_n (P := lsB n k ns C Me W S E b) (fun q => e (of_decide_eq_true q))]
          · show m - (nI (i + 1)).toNatClampNeg < m - (nI i).toNatClampNeg
            rw [nI_clamp (by omega), nI_clamp (by omega)]
            omega) 100000 ((0 : Int32), (0 : Int32), M1) ⟨0, by omega, rfl, rfl, g2, g3⟩ (by show m - _ < _; omega)
      obtain ⟨⟨v, MC⟩, c1, c2, c3⟩ := keyC
      simp only at c2 c3
      subst c2
      rw [c1, Bd_some]
      obtain ⟨M2, r1, r2, r3⟩ := begin_spec (M := MC) (AR_c (fun j => by rw [c3 136 (by omega)]) hA)
      have r3' : ∀ o, o ≠ 115 → o ≠ 137 → M2 o = M o := fun o q1 q2 => (r3 o q2).trans (c3 o q1)
      have keyM := Lp_inv (f := b_X12_last_34 128 (nI b) (nI m)) (fun s => ∃ i, i ≤ m ∧ s.1 = nI (cntL (lsB n k ns C Me W S E b) i) ∧ s.2.1 = nI i ∧ AR (rgI n k ns C Me W S E i) (s.2.2 137) ∧ ∀ o, o ≠ 115 → o ≠ 137 → s.2.2 o = M o) (fun s => m - s.2.1.toNatClampNeg) (fun t => t.1 = nI (cntL (lsB n k ns C Me W S E b) m) ∧ ∀ o, o ≠ 115 → o ≠ 137 → t.2 o = M o) (fun s hs => by
        obtain ⟨i, hi, hv, hx, hW, hF⟩ := hs
        obtain ⟨v, x, Mi⟩ := s
        simp only at hv hx hW hF
        subst hx
        subst hv
        by_cases hin : i = m
        · subst hin
          exact Or.inr ⟨(nI (cntL (lsB n k ns C Me W S E b) i), Mi), by unfold b_X12_last_34; rw [if_pos (nI_le (Nat.le_refl _) (by omega))], rfl, hF⟩
        · have hMi : MT n k ns C Me W S Mi := MT_c (fun o ho => hF o (by omega) (by omega)) hM
          obtain ⟨M3, y1, y2, y3⟩ := goOn_spec (m := 1) hMi hV hn (EV_rgI hV hn hE.1 i (by omega)) (by rw [rgI_0]; omega) hW
          have y2' : AR (rgI n k ns C Me W S E (i + 1)) (M3 137) := y2
          have hf2 : ∀ o, o ≠ 115 → o ≠ 137 → M3 o = M o := fun o q1 q2 => (y3 o q2).trans (hF o q1 q2)
          have m16' : M3 128 16 = nI n := by rw [hf2 128 (by omega) (by omega)]; exact m16
          have e5 : ((5 : Int32) + M3 128 16) - (1 : Int32) = nI (5 + (n - 1)) := by
            rw [m16', show (5 : Int32) + nI n = nI (5 + n) from nI_add 5 n, show nI (5 + n) - (1 : Int32) = nI (5 + n - 1) from pk_sub (b := 1) (by omega)]
            rw [show 5 + n - 1 = 5 + (n - 1) by omega]
          refine Or.inl ⟨(nI (cntL (lsB n k ns C Me W S E b) (i + 1)), nI (i + 1), M3), ?_, ⟨i + 1, by omega, rfl, rfl, y2', hf2⟩, ?_⟩
          · unfold b_X12_last_34
            simp only [Lt_eq]
            rw [if_neg (nI_ge (show i < m by omega) (by omega)), show f_X12_goOn 128 (1 : Int32) Mi = some M3 from y1, Bd_some]
            simp only [e5]
            rw [Gd_t ((ib_nI (by omega)).mpr (by omega)), ix_nI (by omega), y2' _ (by omega)]
            have hlt := h8 (i + 1) (by omega) (n - 1) (by omega)
            by_cases e : rgI n k ns C Me W S E (i + 1) (5 + (n - 1)) = b
            · rw [if_pos (show nI (rgI n k ns C Me W S E (i + 1) (5 + (n - 1))) = nI b by rw [e]), nI_1, nI_1, cntL_s (P := lsB n k ns C Me W S E b) (decide_eq_true e)]
            · rw [if_neg (show ¬ nI (rgI n k ns C Me W S E (i + 1) (5 + (n - 1))) = nI b from fun q => e (nI_inj (by omega) (by omega) q)), nI_1, show nI (cntL (lsB n k ns C Me W S E b) i) + (0 : Int32) = nI (cntL (lsB n k ns C Me W S E b) i + 0) from nI_add _ 0, cntL_n (P := lsB n k ns C Me W S E b) (fun q => e (of_decide_eq_true q))]
              rfl
          · show m - (nI (i + 1)).toNatClampNeg < m - (nI i).toNatClampNeg
            rw [nI_clamp (by omega), nI_clamp (by omega)]
            omega) 100000 ((0 : Int32), (0 : Int32), M2) ⟨0, by omega, rfl, rfl, r2, r3'⟩ (by show m - _ < _; omega)
      obtain ⟨⟨v, MM⟩, d1, d2, d3⟩ := keyM
      simp only at d2 d3
      subst d2
      refine ⟨_, MC, MM, rfl, ?_, Inv_tr (fun o j q => ?_) hI⟩
      · rw [isBell_1 n1 hb (by rw [c3 128 (by omega)]; exact m16), if_neg one_ne, hin, if_neg one_ne, r1, Bd_some, d1, Bd_some]
      · unfold Scrt at q
        rw [d3 o (by omega) (by omega)]
    · have hin : f_X12_in x (1 : Int32) (500 : Int32) = 0 := in_0 (lo := 1) (hi := 500) hx
      rcases hx with hx | ⟨q1, q2, q3⟩
      · rw [if_pos (show x < (1 : Int32) from hx)]
        exact ⟨_, _, _, rfl, by rw [isBell_1 n1 hb m16, if_neg one_ne, hin, if_pos rfl], h⟩
      · rw [if_neg (show ¬ x < (1 : Int32) from q1), if_neg (show ¬ x ≤ (500 : Int32) from q3)]
        exact ⟨_, _, _, rfl, by rw [isBell_1 n1 hb m16, if_neg one_ne, hin, if_pos rfl], h⟩
  · rw [q1 t M t0, if_pos rfl]
    exact ⟨_, _, _, rfl, by rw [q2 M m16, if_pos rfl], h⟩
/-! who goes out next -/
theorem lstR_congr {E F : Nat → Nat} {b : Nat} : ∀ ns, (∀ r, r < ns → E (11 + r) = F (11 + r)) → lstR E b ns = lstR F b ns
  | 0, _ => rfl
  | ns + 1, h => by
    show (if E (11 + ns) = b then some ns else lstR E b ns) = (if F (11 + ns) = b then some ns else lstR F b ns)
    rw [h ns (by omega), lstR_congr ns (fun r hr => h r (by omega))]
theorem losE_congr {n ns : Nat} {E F : Nat → Nat} (h1 : E (5 + n - 1) = F (5 + n - 1)) (h2 : E 4 = F 4) (h3 : ∀ r, r < ns → E (11 + r) = F (11 + r)) : losE n ns E = losE n ns F := by
  unfold losE
  rw [h1, h2, lstR_congr ns h3]
theorem rgI_rope {n k ns C r : Nat} {Me W S E : Nat → Nat} (hn : n ≤ 6) (hr : r < 6) : ∀ i, rgI n k ns C Me W S E i (11 + r) = E (11 + r)
  | 0 => rfl
  | i + 1 => by
    show ringE n k ns C Me W S (rgI n k ns C Me W S E i) (11 + r) = _
    rw [ringE_rope hn hr, rgI_rope hn hr i]
/-- the loser of the row that comes behind i rows, if OUT is still as it was -/
def nxO (n k ns C : Nat) (Me W S E : Nat → Nat) (i : Nat) : Option Nat :=
  if rgI n k ns C Me W S E (i + 1) 1 % k = 0 then losE n ns (fun j => if 11 ≤ j ∨ j = 4 then E j else rgI n k ns C Me W S E (i + 1) j) else none
theorem ringE_out {n k ns C : Nat} {Me W S E X : Nat → Nat} (hn : n ≤ 6) (hn0 : 0 < n) (hns : ns ≤ 6) (hk : 0 < k) (h4 : X 4 = E 4) (hr : ∀ r, r < 6 → X (11 + r) = E (11 + r)) : ringE n k ns C Me W S X 4 = match (if ringE n k ns C Me W S X 1 % k = 0 then losE n ns (fun j => if 11 ≤ j ∨ j = 4 then E j else ringE n k ns C Me W S X j) else none) with
    | none => E 4
    | some r => E 4 ||| 2 ^ r := by
  have hlead : (ringE n k ns C Me W S X 1 % k = 0) ↔ X 1 % k = k - 1 := by
    rw [ringE_1, ← nxc_mod hk]
    unfold nxc
    have := Nat.mod_lt (X 1) hk
    split <;> omega
  have e4 : tirE W S ns (E1f n k C Me X) 4 = E 4 := by rw [tirE_lo (by omega), E1f_34 (by omega) (by omega), h4]
  have hval : ringE n k ns C Me W S X 4 = if X 1 % k = k - 1 then outE n ns (tirE W S ns (E1f n k C Me X)) 4 else tirE W S ns (E1f n k C Me X) 4 := by
    rw [ringE_eq]; split <;> rfl
  by_cases hl : X 1 % k = k - 1
  · have hc : losE n ns (tirE W S ns (E1f n k C Me X)) = losE n ns (fun j => if 11 ≤ j ∨ j = 4 then E j else ringE n k ns C Me W S X j) := by
      apply losE_congr
      · show _ = if 11 ≤ 5 + n - 1 ∨ 5 + n - 1 = 4 then _ else _
        rw [if_neg (by omega), ringE_n4 (by omega)]
      · rw [e4]; rfl
      · intro r hr2
        show _ = if 11 ≤ 11 + r ∨ 11 + r = 4 then _ else _
        rw [if_pos (by omega), tirE_lo (by omega), E1f_hi hn (by omega), hr r (by omega)]
    rw [hval, if_pos hl, outE_4, e4, hc, if_pos (hlead.mpr hl)]
    generalize losE n ns (fun j => if 11 ≤ j ∨ j = 4 then E j else ringE n k ns C Me W S X j) = oo
    cases oo <;> rfl
  · rw [hval, if_neg hl, e4, if_neg (fun q => hl (hlead.mp q))]
theorem andn_spec : ∀ x, x < 64 → ∀ e, e < 64 → nI x &&& (nI e ^^^ (-1 : Int32)) = nI (x &&& (63 ^^^ e)) := by decide +kernel
theorem new_bit : ∀ e, e < 64 → ∀ r, r < 6 → e.testBit r = false → (e ||| 2 ^ r) &&& (63 ^^^ e) = 2 ^ r := by decide +kernel
theorem old_bit : ∀ e, e < 64 → e &&& (63 ^^^ e) = 0 := by decide +kernel
theorem losE_out {n ns r : Nat} {E : Nat → Nat} (h : losE n ns E = some r) : (E 4).testBit r = false := by
  unfold losE at h
  cases hl : lstR E (E (5 + n - 1)) ns with
  | none => rw [hl] at h; exact absurd h (by simp)
  | some q =>
    rw [hl] at h
    simp only at h
    by_cases hb : (E 4).testBit q = true
    · rw [if_pos hb] at h; exact absurd h (by simp)
    · rw [if_neg hb] at h
      split at h
      · have : q = r := by simpa using h
        subst this
        simpa using hb
      · exact absurd h (by simp)
theorem op_nextOut {M : Mm} (h : InvX M) : ∃ r M1 M2, f_X11_nextOut 0 M = some (r, M1) ∧ f_X12_nextOut 128 M1 = some (r, M2) ∧ InvX M2 := by
  obtain ⟨t, n, k, ns, C, Me, W, S, E, hI⟩ := id h
  obtain ⟨ht, h00, hkd, t0, t1, t2⟩ := inv_t hI
  obtain ⟨m16, m17, m18, m19⟩ := inv_m hI
  obtain ⟨n1, n2, n3, n4, n5⟩ := inv_n hI
  obtain ⟨⟨hV, z0, z1, hT, hM⟩, ⟨hE, hC, hA⟩, -⟩ := id hI
  unfold f_X11_nextOut f_X12_nextOut
  simp only [h00, Gd_t hkd]
  by_cases hn : n = 0
  · subst hn
    rw [stands_0 t0, if_pos rfl]
    obtain ⟨M2, r1, r2, r3⟩ := begin_spec hA
    refine ⟨-1, M, M2, rfl, ?_, Inv_tr (fun o j q => ?_) hI⟩
    · rw [r1, Bd_some]
      have hb : b_X12_nextOut_6 128 ((0 : Int32), M2) = some (.inr (.inr M2)) := by
        unfold b_X12_nextOut_6
        rw [if_neg (show ¬ (500 : Int32) ≤ (0 : Int32) by decide), isTower_0 (show M2 128 16 = nI 0 by rw [r3 128 (by omega)]; exact m16), if_pos rfl]
      exact BdS_LpR (s0 := ((0 : Int32), M2)) (fun _ => ((0 : Int32), M2)) 0 M2 rfl (fun i hi => absurd hi (by omega)) hb (by omega)
    · unfold Scrt at q
      rw [r3 o (by omega)]
  · have hn' : 0 < n := by omega
    have hk := (n4 hn').2
    have he0 := hE.2.1
    have e4 : E 4 < 2 ^ ns := hE.1.2.2.2.2.1
    have e64 : E 4 < 64 := Nat.lt_of_lt_of_le e4 (pow_ns (by omega))
    rw [stands_1 t0 hn' n1, if_neg one_ne]
    obtain ⟨M1, g1, g2, g3⟩ := wt_copy hC hE.1
    rw [g1, Bd_some]
    have h8 : ∀ i, i ≤ 500 → ∀ p, p < n → rgI n k ns C Me W S E i (5 + p) < 8 := fun i hi p hp => by have := (EV_rgI hV hn' hE.1 i (by omega)).2.2.2.2.2.1 p hp; omega
    obtain ⟨MC, c1, c2⟩ := srch (f := b_X11_nextOut_28 0) (fun i Mi => WT n k (rgI n k ns C Me W S E i) (Mi 115) ∧ ∀ o, o ≠ 115 → Mi o = M o) (fun Mi => ∀ o, o ≠ 115 → Mi o = M o) (fun i => (nxO n k ns C Me W S E i).isSome) (fun i => lI (nxO n k ns C Me W S E i)) 0 500 (fun i Mi hi hJ => by
      obtain ⟨hW, hF⟩ := hJ
      obtain ⟨M2, r1, r2, r3⟩ := wt_step (TW_c hV (fun o ho => hF o (by omega)) hT) hV hn' (EV_rgI hV hn' hE.1 i (by omega)) hW
      have r2' : WT n k (rgI n k ns C Me W S E (i + 1)) (M2 115) := r2
      have z : (Mi 0 0).toNatClampNeg = t := by rw [hF 0 (by omega)]; exact h00
      have hf2 : ∀ o, o ≠ 115 → M2 o = M o := fun o ho => (r3 o ho).trans (hF o ho)
      have z2 : (M2 0 0).toNatClampNeg = t := by rw [hf2 0 (by omega)]; exact h00
      refine ⟨M2, hf2, fun _ => ⟨r2', hf2⟩, ?_⟩
      have hj : (((if (f_X10_endsLead 115 M2) = 0 then some (-1 : Int32) else (Bd (f_X1_loserBy 37 (M2 115 0) t M2) (fun r11 => some r11)))) : Option (Int32)) = some (lI (nxO n k ns C Me W S E i)) := by
        unfold f_X10_endsLead nxO
        rw [r2'.2.1]
        have hml := Nat.mod_lt (rgI n k ns C Me W S E (i + 1) 1) hk
        by_cases hl : rgI n k ns C Me W S E (i + 1) 1 % k = 0
        · rw [if_pos hl, hl, if_pos (show nI 0 = 0 from rfl), if_neg one_ne, r2'.1]
          rw [loserBy_spec (E := fun j => if 11 ≤ j ∨ j = 4 then E j else rgI n k ns C Me W S E (i + 1) j) (TW_c hV (fun o ho => hf2 o (by omega)) hT) hV hn' (by rw [hf2 37 (by omega)]; exact hC.2.1) e4 (fun r hr => by
            show _ = nI (if 11 ≤ 11 + r ∨ 11 + r = 4 then _ else _)
            rw [if_pos (by omega), hf2 _ (by omega)]; exact hC.2.2.2.2.1 r hr) (fun r hr => by
            show (if 11 ≤ 11 + r ∨ 11 + r = 4 then _ else _) < ns
            rw [if_pos (by omega)]; exact hE.1.2.2.2.2.2.2.2.1 r hr) (fun r q hr hq => by
            show (if 11 ≤ 11 + r ∨ 11 + r = 4 then E (11 + r) else _) = (if 11 ≤ 11 + q ∨ 11 + q = 4 then E (11 + q) else _) → _
            rw [if_pos (by omega), if_pos (by omega)]; exact hE.1.2.2.2.2.2.2.2.2.1 r q hr hq) (h8 (i + 1) (by omega)) (by
            show rgI n k ns C Me W S E (i + 1) (5 + (n - 1)) = if 11 ≤ 5 + n - 1 ∨ 5 + n - 1 = 4 then _ else _
            rw [if_neg (by omega), show 5 + n - 1 = 5 + (n - 1) by omega]), Bd_some]
        · rw [if_neg hl, if_neg (show ¬ nI (rgI n k ns C Me W S E (i + 1) 1 % k) = 0 from nI_ne0 (by omega) (by omega)), if_pos rfl]
          rfl
      unfold b_X11_nextOut_28
      simp only [Lt_eq, z, Gd_t hkd]
      rw [if_neg (show ¬ (500 : Int32) ≤ nI (i + 0) from nI_ge (b := 500) (by omega) (by omega)), r1, Bd_some]
      simp only [z2, Gd_t hkd]
      rw [hj, Bd_some]
      cases hq : nxO n k ns C Me W S E i with
      | none =>
        show (if (-1 : Int32) = (-1 : Int32) then _ else _) = _
        rw [if_pos rfl, if_neg (by simp), nI_1]
      | some r =>
        have hr : r < ns := by
          unfold nxO at hq
          split at hq
          · exact losE_lt hq
          · exact absurd hq (by simp)
        show (if nI r = (-1 : Int32) then _ else _) = _
        rw [if_neg (nI_m1 (by omega)), if_pos (by simp)]) (fun Mi hJ => ⟨hJ.2, by
      unfold b_X11_nextOut_28
      rw [if_pos (show (500 : Int32) ≤ nI (500 + 0) by decide)]⟩) 500 0 M1 100000 (by omega) ⟨g2, g3⟩ (by omega)
    rw [show BdS (Lp (b_X11_nextOut_28 0) 100000 ((0 : Int32), M1)) (fun e14 => some ((-1 : Int32), e14)) = _ from c2]
    obtain ⟨M2, r1, r2, r3⟩ := begin_spec (M := MC) (AR_c (fun j => by rw [c1 136 (by omega)]) hA)
    have r3' : ∀ o, o ≠ 115 → o ≠ 137 → M2 o = M o := fun o q1 q2 => (r3 o q2).trans (c1 o q1)
    obtain ⟨MM, d1, d2⟩ := srch (f := b_X12_nextOut_6 128) (fun i Mi => AR (rgI n k ns C Me W S E i) (Mi 137) ∧ rgI n k ns C Me W S E i 4 = E 4 ∧ ∀ o, o ≠ 115 → o ≠ 137 → Mi o = M o) (fun Mi => ∀ o, o ≠ 115 → o ≠ 137 → Mi o = M o) (fun i => (nxO n k ns C Me W S E i).isSome) (fun i => lI (nxO n k ns C Me W S E i)) 0 500 (fun i Mi hi hJ => by
      obtain ⟨hW, hX4, hF⟩ := hJ
      have hMi : MT n k ns C Me W S Mi := MT_c (fun o ho => hF o (by omega) (by omega)) hM
      obtain ⟨M3, y1, y2, y3⟩ := goOn_spec (m := 1) hMi hV hn' (EV_rgI hV hn' hE.1 i (by omega)) (by rw [rgI_0]; omega) hW
      have y2' : AR (rgI n k ns C Me W S E (i + 1)) (M3 137) := y2
      have hf2 : ∀ o, o ≠ 115 → o ≠ 137 → M3 o = M o := fun o q1 q2 => (y3 o q2).trans (hF o q1 q2)
      have hout : rgI n k ns C Me W S E (i + 1) 4 = match nxO n k ns C Me W S E i with
        | none => E 4
        | some r => E 4 ||| 2 ^ r := ringE_out n1 hn' (by omega) hk hX4 (fun r hr => rgI_rope n1 hr i)
      have q18 : M3 128 18 = nI ns := by rw [hf2 128 (by omega) (by omega)]; exact m18
      have q4 : M3 136 4 = nI (E 4) := by rw [hf2 136 (by omega) (by omega)]; exact hA 4 (by omega)
      have hb0 : b_X12_nextOut_6 128 (nI (i + 0), Mi) = BdS (Lp (b_X12_nextOut_27 128 M3) 100000 (0 : Int32)) (fun e8 => some (.inl (nI (i + 1 + 0), M3))) := by
        unfold b_X12_nextOut_6
        simp only [Lt_eq]
        rw [if_neg (show ¬ (500 : Int32) ≤ nI (i + 0) from nI_ge (b := 500) (by omega) (by omega)), isTower_1 hMi.1 hn' n1, if_neg one_ne, show f_X12_goOn 128 (1 : Int32) Mi = some M3 from y1, Bd_some, nI_1]
      refine ⟨M3, hf2, fun hq => ⟨y2', ?_, hf2⟩, ?_⟩
      · rw [hout]
        cases hq2 : nxO n k ns C Me W S E i with
        | none => rfl
        | some r => rw [hq2] at hq; exact absurd hq (by simp)
      · rw [hb0]
        cases hq : nxO n k ns C Me W S E i with
        | none =>
          rw [hq] at hout
          have v4 : M3 137 4 = nI (E 4) := by rw [y2' 4 (by omega), hout]
          have hh0 : ∀ r, r < 6 → f_X12_has (nI 0) (nI r) = 0 := fun r hr => by rw [has_nI (by omega) (by omega), Nat.zero_testBit]; rfl
          have hs : ∀ r, r < ns → b_X12_nextOut_27 128 M3 (nI r) = some (.inl (nI (r + 1))) := fun r hr => by
            unfold b_X12_nextOut_27
            simp only [Lt_eq]
            rw [q18, if_neg (nI_ge hr (by omega)), show ix (4 : Int32) = 4 by decide, v4, q4, andn_spec _ e64 _ e64, old_bit _ e64, hh0 r (by omega), if_pos rfl, nI_1]
          have he : b_X12_nextOut_27 128 M3 (nI ns) = some (.inr (.inr ())) := by
            unfold b_X12_nextOut_27
            rw [q18, if_pos (nI_le (Nat.le_refl _) (by omega))]
          rw [BdS_LpR (s0 := (0 : Int32)) (fun i => nI i) ns () rfl hs he (by omega), if_neg (by simp)]
        | some r =>
          rw [hq] at hout
          have hr : r < ns ∧ (E 4).testBit r = false := by
            unfold nxO at hq
            split at hq
            · have hlo := losE_out hq
              exact ⟨losE_lt hq, hlo⟩
            · exact absurd hq (by simp)
          have hor : E 4 ||| 2 ^ r < 64 := Nat.or_lt_two_pow (n := 6) e64 (Nat.pow_lt_pow_right (by omega) (by omega))
          have v4 : M3 137 4 = nI (E 4 ||| 2 ^ r) := by rw [y2' 4 (by omega), hout]
          have hval : (M3 137 4) &&& (M3 136 4 ^^^ (-1 : Int32)) = nI (2 ^ r) := by rw [v4, q4, andn_spec _ hor _ e64, new_bit _ e64 r (by omega) hr.2]
          have h2r : 2 ^ r < 64 := Nat.pow_lt_pow_right (a := 2) (n := 6) (by omega) (by omega)
          have hh1 : ∀ a, a < 6 → f_X12_has (nI (2 ^ r)) (nI a) = if r = a then 1 else 0 := fun a ha => by
            rw [has_nI (by omega) (by omega), Nat.testBit_two_pow]
            by_cases e : r = a
            · rw [if_pos (decide_eq_true e), if_pos e]
            · rw [if_neg (fun q => e (of_decide_eq_true q)), if_neg e]
          have hs : ∀ a, a < r → b_X12_nextOut_27 128 M3 (nI a) = some (.inl (nI (a + 1))) := fun a ha => by
            unfold b_X12_nextOut_27
            simp only [Lt_eq]
            rw [q18, if_neg (nI_ge (show a < ns by omega) (by omega)), show ix (4 : Int32) = 4 by decide, hval, hh1 a (by omega), if_neg (show ¬ r = a by omega), if_pos rfl, nI_1]
          have he : b_X12_nextOut_27 128 M3 (nI r) = some (.inr (.inl (.inr (.inl (nI r, M3))))) := by
            unfold b_X12_nextOut_27
            rw [q18, if_neg (nI_ge hr.1 (by omega)), show ix (4 : Int32) = 4 by decide, hval, hh1 r (by omega), if_pos (show r = r from rfl), if_neg one_ne]
          rw [BdS_LpL (s0 := (0 : Int32)) (fun i => nI i) r (.inr (.inl (nI r, M3))) rfl hs he (by omega), if_pos (by simp)]
          rfl) (fun Mi hJ => ⟨hJ.2.2, by
      unfold b_X12_nextOut_6
      rw [if_pos (show (500 : Int32) ≤ nI (500 + 0) by decide)]⟩) 500 0 M2 100000 (by omega) ⟨r2, rfl, r3'⟩ (by omega)
    refine ⟨_, MC, MM, rfl, ?_, Inv_tr (fun o j q => ?_) hI⟩
    · rw [r1, Bd_some]
      exact d2
    · unfold Scrt at q
      rw [d1 o (by omega) (by omega)]
