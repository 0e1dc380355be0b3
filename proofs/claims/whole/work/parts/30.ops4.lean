/-! ringing -/
def rgI (n k ns C : Nat) (Me W S E : Nat → Nat) : Nat → Nat → Nat
  | 0 => E
  | i + 1 => ringE n k ns C Me W S (rgI n k ns C Me W S E i)
theorem ringE_0 {n k ns C : Nat} {Me W S E : Nat → Nat} : ringE n k ns C Me W S E 0 = E 0 + 1 := by
  rw [ringE_n4 (by omega), tirE_lo (by omega)]
  unfold E1f
  rw [up1_s]
theorem ringE_1 {n k ns C : Nat} {Me W S E : Nat → Nat} : ringE n k ns C Me W S E 1 = E 1 + 1 := by
  rw [ringE_n4 (by omega), tirE_lo (by omega)]
  unfold E1f
  rw [up1_o (by omega), up1_s]
theorem rgI_0 {n k ns C : Nat} {Me W S E : Nat → Nat} : ∀ i, rgI n k ns C Me W S E i 0 = E 0 + i
  | 0 => rfl
  | i + 1 => by
    show ringE n k ns C Me W S (rgI n k ns C Me W S E i) 0 = _
    rw [ringE_0, rgI_0 i]; omega
theorem EV_rgI {n k ns C : Nat} {Me W S E : Nat → Nat} (hV : TV n k ns C Me W S) (hn : 0 < n) (hE : EV n k ns E) : ∀ i, E 0 + i ≤ 12000 → EV n k ns (rgI n k ns C Me W S E i)
  | 0, _ => hE
  | i + 1, h => EV_ring hV hn (EV_rgI hV hn hE i (by omega)) (by rw [rgI_0]; omega)
theorem ringL_spec {t n k ns C m : Nat} {Me W S E : Nat → Nat} {M : Mm} (h0 : M 0 0 = nI t) (hT : TW t n k ns C Me W S M) (hV : TV n k ns C Me W S) (hn : 0 < n) (hE : EV n k ns E) (hm : E 0 + m ≤ 12000) (hC : CE 37 n k E M) : ∃ M', Lp (b_X11_ring_28 0 (nI m)) 100000 ((0 : Int32), M) = some M' ∧ CE 37 n k (rgI n k ns C Me W S E m) M' ∧ ∀ o, ¬ (37 ≤ o ∧ o ≤ 40) → M' o = M o := by
  have ht := hT.1
  have key := Lp_inv (f := b_X11_ring_28 0 (nI m)) (fun s => ∃ i, i ≤ m ∧ s.1 = nI i ∧ CE 37 n k (rgI n k ns C Me W S E i) s.2 ∧ ∀ o, ¬ (37 ≤ o ∧ o ≤ 40) → s.2 o = M o) (fun s => m - s.1.toNatClampNeg) (fun t => CE 37 n k (rgI n k ns C Me W S E m) t ∧ ∀ o, ¬ (37 ≤ o ∧ o ≤ 40) → t o = M o) ?_ 100000 ((0 : Int32), M) ⟨0, by omega, rfl, hC, fun _ _ => rfl⟩ (by show m - _ < _; omega)
  · exact key
  · rintro ⟨x, Mi⟩ ⟨i, hi, hx, hCi, hF⟩
    simp only at hx hCi hF
    subst hx
    have z : (Mi 0 0).toNatClampNeg = t := by rw [hF 0 (by omega)]; exact tw_ref h0 ht
    unfold b_X11_ring_28
    simp only [Lt_eq, z, Gd_t (kd_tw ht)]
    by_cases hin : i = m
    · subst hin
      exact Or.inr ⟨_, by rw [if_pos (nI_le (Nat.le_refl _) (by omega))], hCi, hF⟩
    · have hTi : TW t n k ns C Me W S Mi := by
        obtain ⟨q0, q1, q2, q3, q4, q5, q6, q7⟩ := hT
        have hb := hV.1
        exact ⟨q0, by rw [hF t (by omega)]; exact q1, by rw [hF t (by omega)]; exact q2, by rw [hF t (by omega)]; exact q3, fun a => by rw [hF _ (by omega)]; exact q4 a, fun a ha => by rw [hF _ (by omega)]; exact q5 a ha, fun a ha => by rw [hF _ (by omega)]; exact q6 a ha, fun a ha => by rw [hF _ (by omega)]; exact q7 a ha⟩
      obtain ⟨M1, g1, g2, g3⟩ := ringNext_spec hTi hV hn (EV_rgI hV hn hE i (by omega)) hCi (by omega)
      refine Or.inl ⟨(nI (i + 1), M1), by rw [if_neg (nI_ge (show i < m by omega) (by omega)), g1, Bd_some, nI_1], ⟨i + 1, by omega, rfl, g2, fun o ho => (g3 o (by omega) (by omega) (by omega)).trans (hF o ho)⟩, ?_⟩
      show m - (nI (i + 1)).toNatClampNeg < m - (nI i).toNatClampNeg
      rw [nI_clamp (by omega), nI_clamp (by omega)]
      omega
theorem MT_c {n k ns C : Nat} {Me W S : Nat → Nat} {M M' : Mm} (h : ∀ o, o = 128 ∨ (133 ≤ o ∧ o ≤ 135) → M' o = M o) (c : MT n k ns C Me W S M) : MT n k ns C Me W S M' := by
  obtain ⟨m16, m17, m18, m19, mMe, mW, mS⟩ := c
  exact ⟨by rw [h 128 (by omega)]; exact m16, by rw [h 128 (by omega)]; exact m17, by rw [h 128 (by omega)]; exact m18, by rw [h 128 (by omega)]; exact m19, fun i hi => by rw [h 134 (by omega)]; exact mMe i hi, fun i hi => by rw [h 133 (by omega)]; exact mW i hi, fun i hi => by rw [h 135 (by omega)]; exact mS i hi⟩
theorem MT_p {n k ns C : Nat} {Me W S : Nat → Nat} {M M' : Mm} (h : ∀ o j, (o = 128 ∧ 16 ≤ j ∧ j ≤ 19) ∨ (133 ≤ o ∧ o ≤ 135) → M' o j = M o j) (c : MT n k ns C Me W S M) : MT n k ns C Me W S M' := by
  obtain ⟨m16, m17, m18, m19, mMe, mW, mS⟩ := c
  exact ⟨by rw [h 128 _ (by omega)]; exact m16, by rw [h 128 _ (by omega)]; exact m17, by rw [h 128 _ (by omega)]; exact m18, by rw [h 128 _ (by omega)]; exact m19, fun i hi => by rw [h 134 _ (by omega)]; exact mMe i hi, fun i hi => by rw [h 133 _ (by omega)]; exact mW i hi, fun i hi => by rw [h 135 _ (by omega)]; exact mS i hi⟩
theorem TW_c {t n k ns C : Nat} {Me W S : Nat → Nat} {M M' : Mm} (hV : TV n k ns C Me W S) (h : ∀ o, 1 ≤ o ∧ o ≤ 34 → M' o = M o) (c : TW t n k ns C Me W S M) : TW t n k ns C Me W S M' := by
  obtain ⟨q0, q1, q2, q3, q4, q5, q6, q7⟩ := c
  have hb := hV.1
  exact ⟨q0, by rw [h t (by omega)]; exact q1, by rw [h t (by omega)]; exact q2, by rw [h t (by omega)]; exact q3, fun a => by rw [h _ (by omega)]; exact q4 a, fun a ha => by rw [h _ (by omega)]; exact q5 a ha, fun a ha => by rw [h _ (by omega)]; exact q6 a ha, fun a ha => by rw [h _ (by omega)]; exact q7 a ha⟩
theorem ringM_spec {n k ns C m : Nat} {Me W S E : Nat → Nat} {M : Mm} (hM : MT n k ns C Me W S M) (hV : TV n k ns C Me W S) (hn : 0 < n) (hE : EV n k ns E) (hm : E 0 + m ≤ 12000) (hA : AR E (M 136)) : ∃ M', Lp (b_X12_ring_21 128 (nI m)) 100000 ((0 : Int32), M) = some M' ∧ AR (rgI n k ns C Me W S E m) (M' 136) ∧ ∀ o, o ≠ 136 → M' o = M o := by
  have key := Lp_inv (f := b_X12_ring_21 128 (nI m)) (fun s => ∃ i, i ≤ m ∧ s.1 = nI i ∧ AR (rgI n k ns C Me W S E i) (s.2 136) ∧ ∀ o, o ≠ 136 → s.2 o = M o) (fun s => m - s.1.toNatClampNeg) (fun t => AR (rgI n k ns C Me W S E m) (t 136) ∧ ∀ o, o ≠ 136 → t o = M o) ?_ 100000 ((0 : Int32), M) ⟨0, by omega, rfl, hA, fun _ _ => rfl⟩ (by show m - _ < _; omega)
  · exact key
  · rintro ⟨x, Mi⟩ ⟨i, hi, hx, hAi, hF⟩
    simp only at hx hAi hF
    subst hx
    unfold b_X12_ring_21
    simp only [Lt_eq]
    by_cases hin : i = m
    · subst hin
      exact Or.inr ⟨_, by rw [if_pos (nI_le (Nat.le_refl _) (by omega))], hAi, hF⟩
    · obtain ⟨M1, g1, g2, g3⟩ := rings_spec hV hn (MT_c (fun o ho => hF o (by omega)) hM) (EV_rgI hV hn hE i (by omega)) hAi (by decide) (by omega)
      refine Or.inl ⟨(nI (i + 1), M1), by rw [if_neg (nI_ge (show i < m by omega) (by omega)), g1, Bd_some, nI_1], ⟨i + 1, by omega, rfl, g2, fun o ho => (g3 o ho).trans (hF o ho)⟩, ?_⟩
      show m - (nI (i + 1)).toNatClampNeg < m - (nI i).toNatClampNeg
      rw [nI_clamp (by omega), nI_clamp (by omega)]
      omega
theorem goOn_spec {n k ns C m : Nat} {Me W S E : Nat → Nat} {M : Mm} (hM : MT n k ns C Me W S M) (hV : TV n k ns C Me W S) (hn : 0 < n) (hE : EV n k ns E) (hm : E 0 + m ≤ 12000) (hA : AR E (M 137)) : ∃ M', f_X12_goOn 128 (nI m) M = some M' ∧ AR (rgI n k ns C Me W S E m) (M' 137) ∧ ∀ o, o ≠ 137 → M' o = M o := by
  have key := Lp_inv (f := b_X12_goOn_2 128 (nI m)) (fun s => ∃ i, i ≤ m ∧ s.1 = nI i ∧ AR (rgI n k ns C Me W S E i) (s.2 137) ∧ ∀ o, o ≠ 137 → s.2 o = M o) (fun s => m - s.1.toNatClampNeg) (fun t => AR (rgI n k ns C Me W S E m) (t 137) ∧ ∀ o, o ≠ 137 → t o = M o) ?_ 100000 ((0 : Int32), M) ⟨0, by omega, rfl, hA, fun _ _ => rfl⟩ (by show m - _ < _; omega)
  · obtain ⟨M1, g1, g2⟩ := key
    exact ⟨M1, by unfold f_X12_goOn; rw [g1, Bd_some], g2⟩
  · rintro ⟨x, Mi⟩ ⟨i, hi, hx, hAi, hF⟩
    simp only at hx hAi hF
    subst hx
    unfold b_X12_goOn_2
    simp only [Lt_eq]
    by_cases hin : i = m
    · subst hin
      exact Or.inr ⟨_, by rw [if_pos (nI_le (Nat.le_refl _) (by omega))], hAi, hF⟩
    · obtain ⟨M1, g1, g2, g3⟩ := rings_spec hV hn (MT_c (fun o ho => hF o (by omega)) hM) (EV_rgI hV hn hE i (by omega)) hAi (by decide) (by omega)
      refine Or.inl ⟨(nI (i + 1), M1), by rw [if_neg (nI_ge (show i < m by omega) (by omega)), g1, Bd_some, nI_1], ⟨i + 1, by omega, rfl, g2, fun o ho => (g3 o ho).trans (hF o ho)⟩, ?_⟩
      show m - (nI (i + 1)).toNatClampNeg < m - (nI i).toNatClampNeg
      rw [nI_clamp (by omega), nI_clamp (by omega)]
      omega
/-- refusals to ring: the same in both -/
theorem refuse_cases {t n k ns C most : Nat} {Me W S E : Nat → Nat} {M : Mm} (hI : Inv t n k ns C Me W S E M) (hm : most < 2 ^ 31) (x : Int32) : (∃ a, 1 ≤ a ∧ a ≤ most ∧ x = nI a ∧ 0 < n ∧ E 0 ≤ 9000 ∧ f_X11_refuseToRing 0 x (nI most) M = some 0 ∧ ∀ Mx : Mm, Mx 128 16 = nI n → Mx 136 0 = nI (E 0) → f_X12_noRows 128 x (nI most) Mx = some 0) ∨ ∃ r : Int32, ¬ r = 0 ∧ f_X11_refuseToRing 0 x (nI most) M = some r ∧ f_X12_noRows 128 x (nI most) M = some r := by
  obtain ⟨ht, h00, hkd, t0, t1, t2⟩ := inv_t hI
  obtain ⟨m16, m17, m18, m19⟩ := inv_m hI
  obtain ⟨n1, n2, n3, n4, n5⟩ := inv_n hI
  obtain ⟨-, ⟨hE, hC, hA⟩, -⟩ := id hI
  have e0 := hE.1.1
  unfold f_X11_refuseToRing f_X12_noRows
  simp only [h00, Gd_t hkd]
  rcases rng_cases 1 most (by omega) hm x with ⟨a, a1, a2, rfl⟩ | hx
  · have hin : f_X12_in (nI a) (1 : Int32) (nI most) = 1 := in_1 (lo := 1) a1 a2 hm
    rw [if_neg (show ¬ nI a < (1 : Int32) from nI_nlt (b := 1) a1 (by omega)), if_pos (nI_le a2 hm)]
    by_cases hn : n = 0
    · subst hn
      refine Or.inr ⟨_, ?_, by rw [stands_0 t0, if_pos rfl], by rw [hin, if_neg one_ne, isTower_0 m16, if_pos rfl]⟩
      decide
    · rw [stands_1 t0 (by omega) n1, if_neg one_ne, hC.1]
      by_cases h9 : E 0 ≤ 9000
      · refine Or.inl ⟨a, a1, a2, rfl, by omega, h9, by rw [if_pos (show nI (E 0) ≤ (9000 : Int32) from nI_le (b := 9000) h9 (by omega))], fun Mx x1 x2 => ?_⟩
        rw [hin, if_neg one_ne, isTower_1 x1 (by omega) n1, if_neg one_ne, show ix (0 : Int32) = 0 by decide, x2, if_pos (show nI (E 0) ≤ (9000 : Int32) from nI_le (b := 9000) h9 (by omega))]
      · refine Or.inr ⟨_, ?_, by rw [if_neg (show ¬ nI (E 0) ≤ (9000 : Int32) from nI_ge (a := 9000) (by omega) (by omega))], ?_⟩
        · decide
        · rw [hin, if_neg one_ne, isTower_1 m16 (by omega) n1, if_neg one_ne, show ix (0 : Int32) = 0 by decide, hA 0 (by omega), if_neg (show ¬ nI (E 0) ≤ (9000 : Int32) from nI_ge (a := 9000) (by omega) (by omega))]
  · have hin : f_X12_in x (1 : Int32) (nI most) = 0 := in_0 (lo := 1) hx
    refine Or.inr ⟨-1000000002, by decide, ?_, by rw [hin, if_pos rfl]⟩
    rcases hx with h1 | ⟨h1, h2, h3⟩
    · rw [if_pos (show x < (1 : Int32) from h1)]
    · rw [if_neg (show ¬ x < (1 : Int32) from h1), if_neg h3]
theorem op_ring {M : Mm} (x : Int32) (h : InvX M) : ∃ r M1 M2, f_X11_ring 0 x M = some (r, M1) ∧ f_X12_ring 128 x M1 = some (r, M2) ∧ InvX M2 := by
  obtain ⟨t, n, k, ns, C, Me, W, S, E, hI⟩ := id h
  obtain ⟨ht, h00, hkd, t0, t1, t2⟩ := inv_t hI
  obtain ⟨m16, m17, m18, m19⟩ := inv_m hI
  obtain ⟨n1, n2, n3, n4, n5⟩ := inv_n hI
  obtain ⟨⟨hV, z0, z1, hT, hM⟩, ⟨hE, hC, hA⟩, -⟩ := id hI
  unfold f_X11_ring f_X12_ring
  rcases refuse_cases hI (show 200 < 2 ^ 31 by omega) x with ⟨m, a1, a2, rfl, hn, h9, c1, c2⟩ | ⟨r, hr, c1, c2⟩
  · rw [show f_X11_refuseToRing 0 (nI m) (200 : Int32) M = some 0 from c1, Bd_some, if_pos rfl]
    obtain ⟨M1, g1, g2, g3⟩ := rem_I hI
    rw [g1, Bd_some]
    have hC1 : CE 37 n k E M1 := CE_c (fun o j _ _ => by rw [g2 o (by omega)]) hC
    have z0' : M1 0 0 = nI t := by rw [g2 0 (by omega)]; exact z0
    obtain ⟨M1', a1', a2', a3⟩ := ringL_spec (m := m) z0' (TW_c hV (fun o ho => g2 o (by omega)) hT) hV hn hE.1 (by omega) hC1
    have hEm := EV_rgI hV hn hE.1 m (by omega)
    have hw : ∀ p, p < n → rgI n k ns C Me W S E m (5 + p) < 8 := fun p hp => by have := hEm.2.2.2.2.2.1 p hp; omega
    rw [a1', Bd_some, figN_spec ht (by rw [a3 0 (by omega)]; exact z0') (by rw [a3 t (by omega), g2 t (by omega)]; exact t0) n1 hw a2', Bd_some]
    have hx : ∀ o j, ¬ (37 ≤ o ∧ o ≤ 106) → M1' o j = M o j := fun o j q => by rw [a3 o (by omega), g2 o (by omega)]
    obtain ⟨M2, r1, r2, r3⟩ := g3 M1' (fun o j q => by rw [a3 o (by omega)]) (fun o j q => hx o j (by omega))
    have hA2 : AR E (M2 136) := AR_c (fun j => by rw [r3 _ _ (by omega), hx _ _ (by omega)]) hA
    have hM2 : MT n k ns C Me W S M2 := MT_p (fun o j q => by rw [r3 o j (by omega), hx o j (by omega)]) hM
    obtain ⟨M3, b1, b2, b3⟩ := ringM_spec (m := m) hM2 hV hn hE.1 (by omega) hA2
    have hf : ∀ o j, ¬ ((37 ≤ o ∧ o ≤ 106) ∨ o = 136 ∨ o = 138 ∨ (o = 128 ∧ j = 26)) → M3 o j = M o j := fun o j q => by rw [b3 o (by omega), r3 o j (by omega), hx o j (by omega)]
    refine ⟨_, _, M3, rfl, ?_, t, n, k, ns, C, Me, W, S, rgI n k ns C Me W S E m, Inv_ev (fun o j q => hf o j (by omega)) hI ⟨⟨hEm, by rw [rgI_0]; omega, fun q => by omega⟩, ?_, b2⟩ (IB_c (fun o j q => by rw [b3 o (by omega)]) r2) (IS_c (fun o j q => hf o j (by omega)) hI.2.2.2.2.1)⟩
    · rw [show f_X12_noRows 128 (nI m) (200 : Int32) M1' = some 0 from c2 M1' (by rw [hx _ _ (by omega)]; exact m16) (by rw [hx _ _ (by omega)]; exact hA 0 (by omega)), Bd_some, if_pos rfl, r1, Bd_some, b1, Bd_some, figOf_spec (by rw [hf _ _ (by omega)]; exact m16) n1 (by decide) (fun p hp => b2 (5 + p) (by omega)), Bd_some]
    · exact CE_c (fun o j _ _ => by rw [b3 o (by omega), r3 o j (by omega)]) a2'
  · rw [show f_X11_refuseToRing 0 x (200 : Int32) M = some r from c1, Bd_some, if_neg hr]
    exact ⟨_, _, _, rfl, by rw [show f_X12_noRows 128 x (200 : Int32) M = some r from c2, Bd_some, if_neg hr], h⟩
