/-! acts of the evening -/
theorem up1_s {E : Nat → Nat} {i v : Nat} : up1 E i v i = v := by unfold up1; rw [if_pos rfl]
theorem up1_o {E : Nat → Nat} {i v j : Nat} (h : j ≠ i) : up1 E i v j = E j := by unfold up1; rw [if_neg h]
theorem CE_2 {e n k v : Nat} {E : Nat → Nat} {M : Mm} (c : CE e n k E M) : CE e n k (up1 E 2 v) (st2 M (e + 1) 2 (nI v)) := by
  obtain ⟨c1, c2, c3, ⟨w0, w1, w2⟩, cR, cT⟩ := c
  refine ⟨by rw [s2_ne (by omega), up1_o (by omega)]; exact c1, by rw [s2_ne (by omega), up1_o (by omega)]; exact c2, by rw [s2_ne (by omega), up1_o (by omega)]; exact c3, ⟨?_, by rw [s2_nk (by omega), up1_o (by omega)]; exact w1, by rw [s2_eq, up1_s]⟩, fun r hr => by rw [s2_ne (by omega), up1_o (by omega)]; exact cR r hr, fun r hr => by rw [s2_ne (by omega), up1_o (by omega)]; exact cT r hr⟩
  rw [s2_nk (by omega), w0, enc_congr n (fun p => E (5 + p)) (fun p => up1 E 2 v (5 + p)) (fun p _ => (up1_o (by omega)).symm)]
theorem CE_3 {e n k v : Nat} {E : Nat → Nat} {M : Mm} (c : CE e n k E M) : CE e n k (up1 E 3 v) (st2 M e 3 (nI v)) := by
  obtain ⟨c1, c2, c3, ⟨w0, w1, w2⟩, cR, cT⟩ := c
  refine ⟨by rw [s2_nk (by omega), up1_o (by omega)]; exact c1, by rw [s2_nk (by omega), up1_o (by omega)]; exact c2, by rw [s2_eq, up1_s], ⟨?_, by rw [s2_ne (by omega), up1_o (by omega)]; exact w1, by rw [s2_ne (by omega), up1_o (by omega)]; exact w2⟩, fun r hr => by rw [s2_ne (by omega), up1_o (by omega)]; exact cR r hr, fun r hr => by rw [s2_ne (by omega), up1_o (by omega)]; exact cT r hr⟩
  rw [s2_ne (by omega), w0, enc_congr n (fun p => E (5 + p)) (fun p => up1 E 3 v (5 + p)) (fun p _ => (up1_o (by omega)).symm)]
theorem CE_4 {e n k v : Nat} {E : Nat → Nat} {M : Mm} (c : CE e n k E M) : CE e n k (up1 E 4 v) (st2 M e 2 (nI v)) := by
  obtain ⟨c1, c2, c3, ⟨w0, w1, w2⟩, cR, cT⟩ := c
  refine ⟨by rw [s2_nk (by omega), up1_o (by omega)]; exact c1, by rw [s2_eq, up1_s], by rw [s2_nk (by omega), up1_o (by omega)]; exact c3, ⟨?_, by rw [s2_ne (by omega), up1_o (by omega)]; exact w1, by rw [s2_ne (by omega), up1_o (by omega)]; exact w2⟩, fun r hr => by rw [s2_ne (by omega), up1_o (by omega)]; exact cR r hr, fun r hr => by rw [s2_ne (by omega), up1_o (by omega)]; exact cT r hr⟩
  rw [s2_ne (by omega), w0, enc_congr n (fun p => E (5 + p)) (fun p => up1 E 4 v (5 + p)) (fun p _ => (up1_o (by omega)).symm)]
theorem inv_n {t n k ns C : Nat} {Me W S E : Nat → Nat} {M : Mm} (hI : Inv t n k ns C Me W S E M) : n ≤ 6 ∧ ns ≤ n ∧ k ≤ 12 ∧ (0 < n → 3 ≤ n ∧ 0 < k) ∧ (n = 0 → k = 0 ∧ ns = 0) := by
  obtain ⟨⟨⟨hb, -⟩, -⟩, -⟩ := hI
  omega
theorem inv_t {t n k ns C : Nat} {Me W S E : Nat → Nat} {M : Mm} (hI : Inv t n k ns C Me W S E M) : (t = 1 ∨ t = 18) ∧ (M 0 0).toNatClampNeg = t ∧ KDF[t]? = some (9, 0) ∧ M t 0 = nI n ∧ M t 1 = nI k ∧ M t 2 = nI ns := by
  obtain ⟨⟨-, h0, h1, ⟨ht, t0, t1, t2, -⟩, -⟩, -⟩ := hI
  exact ⟨ht, tw_ref h0 ht, kd_tw ht, t0, t1, t2⟩
theorem inv_m {t n k ns C : Nat} {Me W S E : Nat → Nat} {M : Mm} (hI : Inv t n k ns C Me W S E M) : M 128 16 = nI n ∧ M 128 17 = nI k ∧ M 128 18 = nI ns ∧ M 128 19 = nI C := by
  obtain ⟨⟨-, -, -, -, ⟨m16, m17, m18, m19, -⟩⟩, -⟩ := hI
  exact ⟨m16, m17, m18, m19⟩
theorem op_call {M : Mm} (h : InvX M) : ∃ r M1 M2, f_X11_call 0 M = some (r, M1) ∧ f_X12_call 128 M1 = some (r, M2) ∧ InvX M2 := by
  obtain ⟨t, n, k, ns, C, Me, W, S, E, hI⟩ := id h
  obtain ⟨ht, h00, hkd, t0, t1, t2⟩ := inv_t hI
  obtain ⟨m16, m17, m18, m19⟩ := inv_m hI
  obtain ⟨n1, n2, n3, n4, n5⟩ := inv_n hI
  unfold f_X11_call f_X12_call
  simp only [Lt_eq, h00, Gd_t hkd]
  obtain ⟨-, ⟨hE, hC, hA⟩, -⟩ := id hI
  have w2 : M (37 + 1) 2 = nI (E 2) := hC.2.2.2.1.2.2
  by_cases hn : n = 0
  · subst hn
    rw [stands_0 t0, if_pos rfl]
    exact ⟨_, _, _, rfl, by rw [isTower_0 m16, if_pos rfl], h⟩
  · rw [stands_1 t0 (by omega) n1, if_neg one_ne]
    have e2 : E 2 < 2 := hE.1.2.2.1
    by_cases h2 : E 2 = 0
    · obtain ⟨M1, g1, g2, g3⟩ := rem_I hI
      rw [w2, h2, if_pos (show nI 0 = (0 : Int32) from rfl), g1, Bd_some]
      have hC1 : CE 37 n k E M1 := CE_c (fun o j _ _ => by rw [g2 o (by omega)]) hC
      have hx : ∀ o j, ¬ (41 ≤ o ∧ o ≤ 106) → ¬ (o = 38) → st2 M1 (37 + 1) 2 (1 : Int32) o j = M o j := fun o j q1 q2 => by rw [s2_ne (by omega), g2 o (by omega)]
      obtain ⟨M2, r1, r2, r3⟩ := g3 (st2 M1 (37 + 1) 2 (1 : Int32)) (fun o j q => by rw [s2_ne (by omega)]) (fun o j q => hx o j (by omega) (by omega))
      have hf : ∀ o j, ¬ ((37 ≤ o ∧ o ≤ 106) ∨ o = 136 ∨ o = 138 ∨ (o = 128 ∧ j = 26)) → st2 M2 136 2 (1 : Int32) o j = M o j := fun o j q => by rw [s2_ne (by omega), r3 o j (by omega), hx o j (by omega) (by omega)]
      have q17 : st2 M2 136 2 (1 : Int32) 128 17 = nI k := by rw [hf _ _ (by omega)]; exact m17
      refine ⟨nI (E 1 % k), st2 M1 (37 + 1) 2 (1 : Int32), st2 M2 136 2 (1 : Int32), ?_, ?_, t, n, k, ns, C, Me, W, S, up1 E 2 1, Inv_ev (fun o j q => hf o j (by omega)) hI ⟨EQ_up hE (by omega), ?_, ?_⟩ (IB_c (fun o j q => by rw [s2_ne (by omega)]) r2) (IS_c (fun o j q => hf o j (by omega)) hI.2.2.2.2.1)⟩
      · show some (st2 M1 (37 + 1) 2 1 (37 + 1) 1, _) = _
        rw [s2_nk (by omega), hC1.2.2.2.1.2.1]
      · rw [isTower_1 (n := n) (by rw [hx _ _ (by omega) (by omega)]; exact m16) (by omega) n1, if_neg one_ne]
        rw [hx 136 _ (by omega) (by omega), show ix (2 : Int32) = 2 by decide, hA 2 (by omega), h2, if_neg (show ¬ nI 0 = (1 : Int32) by decide), r1, Bd_some, q17, Gd_t (nI_ne0 (by omega) (by omega)), s2_nk (show ix (1 : Int32) ≠ 2 by decide), r3 _ _ (by decide), hx 136 _ (by omega) (by omega), show ix (1 : Int32) = 1 by decide, hA 1 (by omega), rm_nI (by have := hE.1.1; have := hE.1.2.1; omega) (by omega) (by omega)]
      · refine CE_c (M := st2 M1 (37 + 1) 2 (1 : Int32)) (fun o j _ _ => by rw [s2_ne (by omega), r3 o j (by omega)]) (CE_2 (v := 1) hC1)
      · exact AR_up (v := 1) (AR_c (fun j => by rw [r3 _ _ (by omega), hx _ _ (by omega) (by omega)]) hA)
    · have h21 : E 2 = 1 := by omega
      rw [w2, h21, if_neg (show ¬ nI 1 = (0 : Int32) by decide)]
      refine ⟨_, _, _, rfl, ?_, h⟩
      rw [isTower_1 m16 (by omega) n1, if_neg one_ne, show ix (2 : Int32) = 2 by decide, hA 2 (by omega), h21, if_pos (show nI 1 = (1 : Int32) from rfl)]
theorem op_wet {M : Mm} (x : Int32) (hx01 : x = 0 ∨ x = 1) (h : InvX M) : ∃ r M1 M2, f_X11_wet 0 x M = some (r, M1) ∧ f_X12_wet 128 x M1 = some (r, M2) ∧ InvX M2 := by
  obtain ⟨t, n, k, ns, C, Me, W, S, E, hI⟩ := id h
  obtain ⟨ht, h00, hkd, t0, t1, t2⟩ := inv_t hI
  obtain ⟨m16, m17, m18, m19⟩ := inv_m hI
  obtain ⟨n1, n2, n3, n4, n5⟩ := inv_n hI
  unfold f_X11_wet f_X12_wet
  simp only [Lt_eq, h00, Gd_t hkd]
  obtain ⟨-, ⟨hE, hC, hA⟩, -⟩ := id hI
  have w3 : M 37 3 = nI (E 3) := hC.2.2.1
  by_cases hn : n = 0
  · subst hn
    rw [stands_0 t0, if_pos rfl]
    exact ⟨_, _, _, rfl, by rw [isTower_0 m16, if_pos rfl], h⟩
  · rw [stands_1 t0 (by omega) n1, if_neg one_ne]
    have e3 : E 3 < 2 := hE.1.2.2.2.1
    obtain ⟨v, hv, rfl⟩ : ∃ v, v < 2 ∧ x = nI v := by
      rcases hx01 with rfl | rfl
      · exact ⟨0, by omega, rfl⟩
      · exact ⟨1, by omega, rfl⟩
    obtain ⟨M1, g1, g2, g3⟩ := rem_I hI
    rw [g1, Bd_some, Gd_t (zb_nI hv), w3]
    have hC1 : CE 37 n k E M1 := CE_c (fun o j _ _ => by rw [g2 o (by omega)]) hC
    have hx : ∀ o j, ¬ (41 ≤ o ∧ o ≤ 106) → ¬ (o = 37) → st2 M1 37 3 (nI v) o j = M o j := fun o j q1 q2 => by rw [s2_ne (by omega), g2 o (by omega)]
    obtain ⟨M2, r1, r2, r3⟩ := g3 (st2 M1 37 3 (nI v)) (fun o j q => by rw [s2_ne (by omega)]) (fun o j q => hx o j (by omega) (by omega))
    have hf : ∀ o j, ¬ ((37 ≤ o ∧ o ≤ 106) ∨ o = 136 ∨ o = 138 ∨ (o = 128 ∧ j = 26)) → st2 M2 136 3 (nI v) o j = M o j := fun o j q => by rw [s2_ne (by omega), r3 o j (by omega), hx o j (by omega) (by omega)]
    refine ⟨nI (E 3), st2 M1 37 3 (nI v), st2 M2 136 3 (nI v), ?_, ?_, t, n, k, ns, C, Me, W, S, up1 E 3 v, Inv_ev (fun o j q => hf o j (by omega)) hI ⟨EQ_up hE (by omega), ?_, ?_⟩ (IB_c (fun o j q => by rw [s2_ne (by omega)]) r2) (IS_c (fun o j q => hf o j (by omega)) hI.2.2.2.2.1)⟩
    · rcases (show E 3 = 0 ∨ E 3 = 1 by omega) with q | q <;> rw [q] <;> rfl
    · rw [isTower_1 (n := n) (by rw [hx _ _ (by omega) (by omega)]; exact m16) (by omega) n1, if_neg one_ne, r1, Bd_some, show ix (3 : Int32) = 3 by decide, r3 _ _ (by decide), hx 136 _ (by omega) (by omega), hA 3 (by omega)]
      rcases (show v = 0 ∨ v = 1 by omega) with rfl | rfl <;> rfl
    · refine CE_c (M := st2 M1 37 3 (nI v)) (fun o j _ _ => by rw [s2_ne (by omega), r3 o j (by omega)]) (CE_3 hC1)
    · exact AR_up (AR_c (fun j => by rw [r3 _ _ (by omega), hx _ _ (by omega) (by omega)]) hA)
theorem clr_spec : ∀ x, x < 64 → ∀ r, r < 6 → nI x &&& ((sl (1 : Int32) (nI r)) ^^^ (-1 : Int32)) = nI (x &&& (63 ^^^ 2 ^ r)) := by decide +kernel
theorem op_forgive {M : Mm} (x : Int32) (h : InvX M) : ∃ r M1 M2, f_X11_forgive 0 x M = some (r, M1) ∧ f_X12_forgive 128 x M1 = some (r, M2) ∧ InvX M2 := by
  obtain ⟨t, n, k, ns, C, Me, W, S, E, hI⟩ := id h
  obtain ⟨ht, h00, hkd, t0, t1, t2⟩ := inv_t hI
  obtain ⟨m16, m17, m18, m19⟩ := inv_m hI
  obtain ⟨n1, n2, n3, n4, n5⟩ := inv_n hI
  unfold f_X11_forgive f_X12_forgive
  simp only [Lt_eq, h00, Gd_t hkd]
  obtain ⟨-, ⟨hE, hC, hA⟩, -⟩ := id hI
  have w4 : M 37 2 = nI (E 4) := hC.2.1
  rcases suit_cases (ns := ns) (by omega) x with ⟨r, hr, rfl⟩ | ⟨q1, q2⟩
  · rw [hasSuitor_spec t2 hr (by omega), if_neg one_ne]
    have e4 : E 4 < 2 ^ ns := hE.1.2.2.2.2.1
    have e64 : E 4 < 64 := Nat.lt_of_lt_of_le e4 (pow_ns (by omega))
    rw [isOut_spec w4 (by omega) (by omega)]
    by_cases hb : (E 4).testBit r = true
    · rw [if_pos hb, if_neg one_ne]
      obtain ⟨M1, g1, g2, g3⟩ := rem_I hI
      rw [g1, Bd_some]
      have hC1 : CE 37 n k E M1 := CE_c (fun o j _ _ => by rw [g2 o (by omega)]) hC
      have hv : M1 37 2 = nI (E 4) := hC1.2.1
      rw [hv, clr_spec _ e64 r (by omega)]
      generalize hvv : E 4 &&& (63 ^^^ 2 ^ r) = v
      have hv2 : v < 2 ^ ns := by rw [← hvv]; exact Nat.lt_of_le_of_lt Nat.and_le_left e4
      have hx : ∀ o j, ¬ (41 ≤ o ∧ o ≤ 106) → ¬ (o = 37) → st2 M1 37 2 (nI v) o j = M o j := fun o j q1 q2 => by rw [s2_ne (by omega), g2 o (by omega)]
      obtain ⟨M2, r1, r2, r3⟩ := g3 (st2 M1 37 2 (nI v)) (fun o j q => by rw [s2_ne (by omega)]) (fun o j q => hx o j (by omega) (by omega))
      have hf : ∀ o j, ¬ ((37 ≤ o ∧ o ≤ 106) ∨ o = 136 ∨ o = 138 ∨ (o = 128 ∧ j = 26)) → st2 M2 136 4 (nI v) o j = M o j := fun o j q => by rw [s2_ne (by omega), r3 o j (by omega), hx o j (by omega) (by omega)]
      refine ⟨nI v, st2 M1 37 2 (nI v), st2 M2 136 4 (nI v), ?_, ?_, t, n, k, ns, C, Me, W, S, up1 E 4 v, Inv_ev (fun o j q => hf o j (by omega)) hI ⟨EQ_up hE (by omega), ?_, ?_⟩ (IB_c (fun o j q => by rw [s2_ne (by omega)]) r2) (IS_c (fun o j q => hf o j (by omega)) hI.2.2.2.2.1)⟩
      · rw [s2_eq]
      · rw [isSuitor_1 (ns := ns) (by omega) hr (by rw [hx _ _ (by omega) (by omega)]; exact m18), if_neg one_ne, show ix (4 : Int32) = 4 by decide, hx 136 _ (by omega) (by omega), hA 4 (by omega), has_nI (by omega) (by omega), if_pos hb, if_neg one_ne, r1, Bd_some, r3 _ _ (by decide), hx 136 _ (by omega) (by omega), hA 4 (by omega), clr_spec _ e64 r (by omega), hvv, s2_eq]
      · refine CE_c (M := st2 M1 37 2 (nI v)) (fun o j _ _ => by rw [s2_ne (by omega), r3 o j (by omega)]) (CE_4 hC1)
      · exact AR_up (AR_c (fun j => by rw [r3 _ _ (by omega), hx _ _ (by omega) (by omega)]) hA)
    · rw [if_neg hb, if_pos rfl]
      exact ⟨_, _, _, rfl, by rw [isSuitor_1 (ns := ns) (by omega) hr m18, if_neg one_ne, show ix (4 : Int32) = 4 by decide, hA 4 (by omega), has_nI (by omega) (by omega), if_neg hb, if_pos rfl], h⟩
  · rw [q1 t M t2, if_pos rfl]
    exact ⟨_, _, _, rfl, by rw [q2 M m18, if_pos rfl], h⟩
