theorem op_method {M : Mm} (x : Int32) (h : InvX M) : ∃ r, f_X11_method 0 x M = some r ∧ f_X12_method 128 x M = some r := by
  obtain ⟨t, n, k, ns, C, Me, W, S, E, hI⟩ := id h
  obtain ⟨ht, h00, hkd, t0, t1, t2⟩ := inv_t hI
  obtain ⟨m16, m17, m18, m19⟩ := inv_m hI
  obtain ⟨n1, n2, n3, n4, n5⟩ := inv_n hI
  obtain ⟨⟨hV, z0, z1, hT, hM⟩, -⟩ := id hI
  obtain ⟨y0, y1, y2, y3, yC, yM, -⟩ := id hT
  obtain ⟨x1, x2, x3, x4, xM, -⟩ := id hM
  unfold f_X11_method f_X12_method
  simp only [h00, Gd_t hkd]
  by_cases hn : n = 0
  · subst hn
    rw [stands_0 t0, if_pos rfl]
    exact ⟨_, rfl, by rw [isTower_0 m16, if_pos rfl]⟩
  · have hk : 0 < k := (n4 (by omega)).2
    rw [stands_1 t0 (by omega) n1, if_neg one_ne, isTower_1 m16 (by omega) n1, if_neg one_ne]
    by_cases hx : x = -1
    · rw [if_pos hx, if_pos hx]
      exact ⟨_, rfl, by rw [m19, (yC (by omega)).2.2.1]⟩
    · rw [if_neg hx, if_neg hx, m17, show nI k - (1 : Int32) = nI (k - 1) from pk_sub (b := 1) (by omega), t1]
      rcases rng_cases 0 (k - 1) (by omega) (by omega) x with ⟨i, -, hi, rfl⟩ | hr
      · rw [if_neg (nI_lt0 (by omega)), if_neg (nI_ge (show i < k by omega) (by omega)), changeAt_spec ht t1 n3 (by omega), Bd_some, Gd_t (kd_ch ht (by omega))]
        refine ⟨_, rfl, ?_⟩
        rw [show f_X12_in (nI i) (0 : Int32) (nI (k - 1)) = 1 from in_1 (lo := 0) (by omega) hi (by omega), if_neg one_ne, Gd_t ((ib_nI (by omega)).mpr (by omega)), ix_nI (by omega), xM i (by omega), (yM i (by omega)).2.2.1]
      · have e0 : f_X12_in x (0 : Int32) (nI (k - 1)) = 0 := in_0 (lo := 0) hr
        refine ⟨-1, ?_, by rw [e0, if_pos rfl]⟩
        rcases hr with q | ⟨q1, q2, q3⟩
        · rw [if_pos (show x < 0 from q)]
        · rw [if_neg (show ¬ x < 0 from q1), if_pos]
          have e1 := Int32.lt_iff_toInt_lt.mp q2
          rw [nI_toInt (by omega)] at e1
          rw [Int32.le_iff_toInt_le, nI_toInt (by omega)]
          omega
theorem ringer_spec {n k ns C b : Nat} {Me W S E : Nat → Nat} {M : Mm} (hV : TV n k ns C Me W S) (hM : MT n k ns C Me W S M) (hA : AR E (M 136)) (hP : ∀ r, r < ns → E (11 + r) < 8) (hb : b < 8) : f_X12_ringerOf 128 (nI b) M = some (lI (lstR E b ns)) := by
  have hns : ns ≤ 6 := by have := hV.1; omega
  have m18 := hM.2.2.1
  unfold f_X12_ringerOf
  have hs : ∀ i, i < ns → b_X12_ringerOf_4 128 (nI b) M (lI (lstR E b i), nI i) = some (.inl (lI (lstR E b (i + 1)), nI (i + 1))) := fun i hi => by
    unfold b_X12_ringerOf_4
    simp only [Lt_eq]
    have h8 := hP i hi
    rw [m18, if_neg (nI_ge hi (by omega)), show (11 : Int32) + nI i = nI (11 + i) from nI_add 11 i, Gd_t ((ib_nI (by omega)).mpr (by omega)), ix_nI (by omega), hA (11 + i) (by omega), nI_1]
    by_cases he : E (11 + i) = b
    · rw [if_pos (show nI (E (11 + i)) = nI b by rw [he])]
      unfold lstR
      rw [if_pos he]
      rfl
    · rw [if_neg (show ¬ nI (E (11 + i)) = nI b from fun q => he (nI_inj (by omega) (by omega) q))]
      rw [show lstR E b (i + 1) = lstR E b i by show (if E (11 + i) = b then some i else lstR E b i) = _; rw [if_neg he]]
  have he : b_X12_ringerOf_4 128 (nI b) M (lI (lstR E b ns), nI ns) = some (.inr (lI (lstR E b ns))) := by
    unfold b_X12_ringerOf_4
    simp only [Lt_eq]
    rw [m18, if_pos (nI_le (Nat.le_refl _) (by omega))]
  exact Bd_Lp (s0 := ((-1 : Int32), (0 : Int32))) (fun i => (lI (lstR E b i), nI i)) ns (lI (lstR E b ns)) rfl hs he (by omega)
theorem op_bell {M : Mm} (x y : Int32) (h : InvX M) : ∃ r, f_X11_bell 0 x y M = some r ∧ f_X12_bell 128 x y M = some r := by
  obtain ⟨t, n, k, ns, C, Me, W, S, E, hI⟩ := id h
  obtain ⟨ht, h00, hkd, t0, t1, t2⟩ := inv_t hI
  obtain ⟨m16, m17, m18, m19⟩ := inv_m hI
  obtain ⟨n1, n2, n3, n4, n5⟩ := inv_n hI
  obtain ⟨⟨hV, z0, z1, hT, hM⟩, ⟨hE, hC, hA⟩, -⟩ := id hI
  have hwn : ∀ p, p < n → E (5 + p) < n := hE.1.2.2.2.2.2.1
  have hw8 : ∀ p, p < n → E (5 + p) < 8 := fun p hp => by have := hwn p hp; omega
  have hj : ∀ p q, p < n → q < n → E (5 + p) = E (5 + q) → p = q := hE.1.2.2.2.2.2.2.1
  have hr1 : ∀ r, r < ns → E (11 + r) < ns := hE.1.2.2.2.2.2.2.2.1
  have hr2 := hE.1.2.2.2.2.2.2.2.2.1
  unfold f_X11_bell f_X12_bell
  simp only [h00, Gd_t hkd]
  rcases bell_cases n1 x with ⟨b, hb, rfl⟩ | ⟨q1, q2⟩
  · rw [hasBell_spec t0 hb (by omega), if_neg one_ne, isBell_1 n1 hb m16, if_neg one_ne]
    by_cases y0 : y = 0
    · subst y0
      rw [if_pos (show (0 : Int32) = (0 : Int32) from rfl), if_pos (show (0 : Int32) = 0 from rfl)]
      unfold f_X9_weightOf
      rw [hasBell_spec t0 hb (by omega), if_neg one_ne, Gd_t ((ib_nI (by omega)).mpr (by omega)), ix_nI (by omega), Bd_some]
      exact ⟨_, rfl, by rw [Gd_t ((ib_nI (by omega)).mpr (by omega)), hM.2.2.2.2.2.1 b hb, hT.2.2.2.2.2.2.1 b hb]⟩
    · rw [if_neg (show ¬ y = (0 : Int32) from y0), if_neg y0]
      by_cases y1 : y = 1
      · subst y1
        obtain ⟨p, hp, hpb⟩ := surj n (fun p => E (5 + p)) hwn hj b hb
        rw [if_pos rfl, if_pos rfl, hC.2.2.2.1.1, t0, placeOf_enc n1 hw8 hp (by omega) hpb (fun q hq e => by have := hj q p (by omega) hp (by rw [show E (5 + q) = b from e]; exact hpb.symm); omega), Bd_some]
        exact ⟨_, rfl, by rw [placeM_spec m16 n1 (by decide) (fun p hp => hA (5 + p) (by omega)) hw8 hj (by omega) hp hpb, Bd_some]⟩
      · rw [if_neg y1, if_neg y1]
        by_cases y2 : y = 2
        · subst y2
          rw [if_pos rfl, if_pos rfl, suitorOf_spec (by omega) t2 hC.2.2.2.2.1 (by omega) (fun r hr => by have := hr1 r hr; omega) hr2, Bd_some]
          exact ⟨_, rfl, by rw [ringer_spec hV hM hA (fun r hr => by have := hr1 r hr; omega) (by omega), Bd_some]⟩
        · rw [if_neg y2, if_neg y2]
          exact ⟨_, rfl, rfl⟩
  · rw [q1 t M t0, if_pos rfl]
    exact ⟨_, rfl, by rw [q2 M m16, if_pos rfl]⟩
theorem op_suitor {M : Mm} (x y : Int32) (h : InvX M) : ∃ r, f_X11_suitor 0 x y M = some r ∧ f_X12_suitor 128 x y M = some r := by
  obtain ⟨t, n, k, ns, C, Me, W, S, E, hI⟩ := id h
  obtain ⟨ht, h00, hkd, t0, t1, t2⟩ := inv_t hI
  obtain ⟨m16, m17, m18, m19⟩ := inv_m hI
  obtain ⟨n1, n2, n3, n4, n5⟩ := inv_n hI
  obtain ⟨⟨hV, z0, z1, hT, hM⟩, ⟨hE, hC, hA⟩, -⟩ := id hI
  have e4 : E 4 < 2 ^ ns := hE.1.2.2.2.2.1
  have e64 : E 4 < 64 := Nat.lt_of_lt_of_le e4 (pow_ns (by omega))
  unfold f_X11_suitor f_X12_suitor
  simp only [h00, Gd_t hkd]
  rcases suit_cases (ns := ns) (by omega) x with ⟨r, hr, rfl⟩ | ⟨q1, q2⟩
  · rw [hasSuitor_spec t2 hr (by omega), if_neg one_ne, isSuitor_1 (ns := ns) (by omega) hr m18, if_neg one_ne]
    by_cases y0 : y = 0
    · subst y0
      rw [if_pos rfl, if_pos rfl]
      unfold f_X9_strengthOf
      rw [hasSuitor_spec t2 hr (by omega), if_neg one_ne, Gd_t ((ib_nI (by omega)).mpr (by omega)), ix_nI (by omega), Bd_some]
      exact ⟨_, rfl, by rw [Gd_t ((ib_nI (by omega)).mpr (by omega)), hM.2.2.2.2.2.2 r hr, hT.2.2.2.2.2.2.2 r hr]⟩
    · rw [if_neg y0, if_neg y0]
      by_cases y1 : y = 1
      · subst y1
        rw [if_pos rfl, if_pos rfl, ropeOf_spec (by omega) (hC.2.2.2.2.1 r (by omega)), Bd_some]
        exact ⟨_, rfl, by rw [show (11 : Int32) + nI r = nI (11 + r) from nI_add 11 r, Gd_t ((ib_nI (by omega)).mpr (by omega)), ix_nI (by omega), hA (11 + r) (by omega)]⟩
      · rw [if_neg y1, if_neg y1]
        by_cases y2 : y = 2
        · subst y2
          unfold f_X1_tirednessOf
          rw [if_pos rfl, if_pos rfl, if_neg (nI_lt0 (by omega)), if_neg (show ¬ (6 : Int32) ≤ nI r from nI_ge (b := 6) (by omega) (by omega)), Gd_t ((ib_nI (by omega)).mpr (by omega)), ix_nI (by omega), Bd_some]
          exact ⟨_, rfl, by rw [show (17 : Int32) + nI r = nI (17 + r) from nI_add 17 r, Gd_t ((ib_nI (by omega)).mpr (by omega)), ix_nI (by omega), hA (17 + r) (by omega), hC.2.2.2.2.2 r (by omega)]⟩
        · rw [if_neg y2, if_neg y2]
          by_cases y3 : y = 3
          · subst y3
            rw [if_pos rfl, if_pos rfl, isOut_spec hC.2.1 (by omega) (by omega), show ix (4 : Int32) = 4 by decide, hA 4 (by omega), bit_nI (by omega) (by omega)]
            by_cases hb : (E 4).testBit r = true
            · rw [if_pos hb, if_neg one_ne]; exact ⟨_, rfl, rfl⟩
            · rw [if_neg hb, if_pos rfl]; exact ⟨_, rfl, rfl⟩
          · rw [if_neg y3, if_neg y3]
            exact ⟨_, rfl, rfl⟩
  · rw [q1 t M t2, if_pos rfl]
    exact ⟨_, rfl, by rw [q2 M m18, if_pos rfl]⟩
