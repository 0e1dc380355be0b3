/-! told -/
def M0w (ns x : Nat) : Mm := fun o _ => if o = 37 ∨ o = 136 then nI x else nI ns
theorem wedC {t ns x : Nat} {M : Mm} (h2 : M t 2 = nI ns) (h4 : M 37 2 = nI x) : f_X1_wed 37 t M = f_X1_wed 37 1 (M0w ns x) := by
  have e : b_X1_wed_21 37 t M = b_X1_wed_21 37 1 (M0w ns x) := funext fun s => by
    unfold b_X1_wed_21 f_X1_isOut
    rw [h2, h4]
    rfl
  unfold f_X1_wed f_X1_stillIn
  rw [e, h2, h4]
  rfl
theorem wedM {ns x : Nat} {M : Mm} (h18 : M 128 18 = nI ns) (h4 : M 136 4 = nI x) : f_X12_wedIn 128 136 M = f_X12_wedIn 128 136 (M0w ns x) := by
  have e : b_X12_wedIn_7 128 136 M = b_X12_wedIn_7 128 136 (M0w ns x) := funext fun s => by
    unfold b_X12_wedIn_7
    rw [h18, show ix (4 : Int32) = 4 by decide, h4]
    rfl
  unfold f_X12_wedIn
  rw [e, h18]
  rfl
theorem wed_fin : ∀ ns, ns < 7 → ∀ x, x < 64 → x < 2 ^ ns → f_X1_wed 37 1 (M0w ns x) = f_X12_wedIn 128 136 (M0w ns x) ∧ (f_X1_wed 37 1 (M0w ns x)).isSome = true := by decide +kernel
theorem op_told {M : Mm} (x : Int32) (h : InvX M) : ∃ r M2, f_X11_told 0 x M = some r ∧ f_X12_told 128 x M = some (r, M2) ∧ InvX M2 := by
  obtain ⟨t, n, k, ns, C, Me, W, S, E, hI⟩ := id h
  obtain ⟨ht, h00, hkd, t0, t1, t2⟩ := inv_t hI
  obtain ⟨m16, m17, m18, m19⟩ := inv_m hI
  obtain ⟨n1, n2, n3, n4, n5⟩ := inv_n hI
  obtain ⟨⟨hV, z0, z1, hT, hM⟩, ⟨hE, hC, hA⟩, ⟨len, tx, l1, l2, l3, l4⟩, c4, c5, ⟨bk, nx, B, b1, b2, b3, ⟨p0, p1, p2⟩, ⟨r0, rr⟩⟩, c7, ⟨hh, N, R, x1, x2, x3, x4, x5, x6⟩, ⟨w, bb, pp, w1, w2, w3, w4⟩⟩ := id hI
  have hw8 : ∀ p, p < n → E (5 + p) < 8 := fun p hp => by have := hE.1.2.2.2.2.2.1 p hp; omega
  have e4 : E 4 < 2 ^ ns := hE.1.2.2.2.2.1
  have e64 : E 4 < 64 := Nat.lt_of_lt_of_le e4 (pow_ns (by omega))
  unfold f_X11_told f_X12_told
  simp only [h00, Gd_t hkd]
  by_cases y0 : x = 0
  · rw [if_pos y0, if_pos y0]; exact ⟨_, _, rfl, by rw [m16, t0], h⟩
  rw [if_neg y0, if_neg y0]
  by_cases y1 : x = 1
  · rw [if_pos y1, if_pos y1]; exact ⟨_, _, rfl, by rw [m17, t1], h⟩
  rw [if_neg y1, if_neg y1]
  by_cases y2 : x = 2
  · rw [if_pos y2, if_pos y2]; exact ⟨_, _, rfl, by rw [m18, t2], h⟩
  rw [if_neg y2, if_neg y2]
  by_cases y3 : x = 3
  · rw [if_pos y3, if_pos y3]; exact ⟨_, _, rfl, by rw [l3, l2], h⟩
  rw [if_neg y3, if_neg y3]
  by_cases y4 : x = 4
  · rw [if_pos y4, if_pos y4]; exact ⟨_, _, rfl, by rw [show ix (0 : Int32) = 0 by decide, hA 0 (by omega), hC.1], h⟩
  rw [if_neg y4, if_neg y4]
  by_cases y5 : x = 5
  · rw [if_pos y5, if_pos y5, figN_spec ht z0 t0 n1 hw8 hC, Bd_some]
    exact ⟨_, _, rfl, by rw [figOf_spec m16 n1 (by decide) (fun p hp => hA (5 + p) (by omega)), Bd_some], h⟩
  rw [if_neg y5, if_neg y5]
  by_cases y6 : x = 6
  · rw [if_pos y6, if_pos y6]; exact ⟨_, _, rfl, by rw [show ix (4 : Int32) = 4 by decide, hA 4 (by omega), hC.2.1], h⟩
  rw [if_neg y6, if_neg y6]
  by_cases y7 : x = 7
  · rw [if_pos y7, if_pos y7, wedC t2 hC.2.1, wedM m18 (hA 4 (by omega))]
    obtain ⟨v1, v2⟩ := wed_fin ns (by omega) (E 4) e64 e4
    obtain ⟨r, hr⟩ := Option.isSome_iff_exists.mp v2
    rw [← v1, hr, Bd_some, Bd_some]
    exact ⟨_, _, rfl, rfl, h⟩
  rw [if_neg y7, if_neg y7]
  by_cases y8 : x = 8
  · rw [if_pos y8, if_pos y8, hC.2.2.2.1.2.2, show ix (2 : Int32) = 2 by decide, hA 2 (by omega)]
    rcases (show E 2 = 0 ∨ E 2 = 1 by have := hE.1.2.2.1; omega) with q | q <;> rw [q]
    · exact ⟨_, _, rfl, rfl, h⟩
    · exact ⟨_, _, rfl, rfl, h⟩
  rw [if_neg y8, if_neg y8]
  by_cases y9 : x = 9
  · rw [if_pos y9, if_pos y9, hC.2.2.1, show ix (3 : Int32) = 3 by decide, hA 3 (by omega)]
    rcases (show E 3 = 0 ∨ E 3 = 1 by have := hE.1.2.2.2.1; omega) with q | q <;> rw [q]
    · exact ⟨_, _, rfl, rfl, h⟩
    · exact ⟨_, _, rfl, rfl, h⟩
  rw [if_neg y9, if_neg y9]
  by_cases y10 : x = 10
  · rw [if_pos y10, if_pos y10, hC.2.2.2.1.2.1, m17]
    by_cases hn : n = 0
    · have e1 : E 1 = 0 := hE.2.2 hn
      have e2 : k = 0 := (n5 hn).1
      rw [e1, e2, if_pos (show nI 0 = 0 from rfl)]
      exact ⟨_, _, rfl, rfl, h⟩
    · have hk : 0 < k := (n4 (by omega)).2
      rw [if_neg (nI_ne0 hk (by omega)), Gd_t (nI_ne0 hk (by omega)), show ix (1 : Int32) = 1 by decide, hA 1 (by omega), rm_nI (by have := hE.1.1; have := hE.1.2.1; omega) hk (by omega)]
      exact ⟨_, _, rfl, rfl, h⟩
  rw [if_neg y10, if_neg y10]
  by_cases y11 : x = 11
  · rw [if_pos y11, if_pos y11]; exact ⟨_, _, rfl, by rw [x4, x3], h⟩
  rw [if_neg y11, if_neg y11]
  by_cases y12 : x = 12
  · rw [if_pos y12, if_pos y12]
    obtain ⟨M2, g1, g2⟩ := lateOnes_spec hV hM x1 x2 x4 x6
    refine ⟨_, M2, rfl, by rw [g1, Bd_some, x5], t, n, k, ns, C, Me, W, S, E, Inv_scr (fun o j q => ?_) hI⟩
    rw [g2 o (fun e => q (by unfold Scrt; omega))]
  rw [if_neg y12, if_neg y12]
  by_cases y13 : x = 13
  · rw [if_pos y13, if_pos y13]; exact ⟨_, _, rfl, by rw [w3, w2], h⟩
  rw [if_neg y13, if_neg y13]
  by_cases y14 : x = 14
  · rw [if_pos y14, if_pos y14]; exact ⟨_, _, rfl, by rw [r0, p0], h⟩
  rw [if_neg y14, if_neg y14]
  exact ⟨_, _, rfl, rfl, h⟩
theorem op_follow {M : Mm} (h : InvX M) : ∃ r, f_X11_follow 0 M = some r ∧ f_X12_follow 128 M = some r := by
  obtain ⟨t, n, k, ns, C, Me, W, S, E, hI⟩ := id h
  obtain ⟨ht, h00, hkd, t0, t1, t2⟩ := inv_t hI
  obtain ⟨m16, m17, m18, m19⟩ := inv_m hI
  obtain ⟨n1, n2, n3, n4, n5⟩ := inv_n hI
  unfold f_X11_follow f_X12_follow
  simp only [h00, Gd_t hkd]
  by_cases hn : n = 0
  · subst hn
    rw [stands_0 t0, if_pos rfl]
    exact ⟨_, rfl, by rw [isTower_0 m16, if_pos rfl]⟩
  · rw [stands_1 t0 (by omega) n1, if_neg one_ne, isTower_1 m16 (by omega) n1, if_neg one_ne]
    have h64 := pow_ns n1
    have hall : f_X9_allPlaces t M = nI (2 ^ n - 1) := by unfold f_X9_allPlaces; rw [t0, all_spec n (by omega)]
    have hsC : ∀ i, i < 2 ^ n - 1 → b_X11_follow_17 0 M (nI ((List.range i).countP (isC n)), nI i) = some (.inl (nI ((List.range (i + 1)).countP (isC n)), nI (i + 1))) := fun i hi => by
      unfold b_X11_follow_17
      simp only [Lt_eq, h00, Gd_t hkd]
      rw [hall, if_neg (nI_ge hi (by omega)), t0, firstsOf_spec n (by omega) i (by omega) (by omega), Bd_some, nI_1, List.range_succ, List.countP_append]
      by_cases hc : isC n i = true
      · have hne : ¬ nI (enc n (fsW i)) = (-1 : Int32) := nI_m1 (by have := enc_b (n := n) (w := fsW i) n1 (fun p _ => fsW_lt i p); omega)
        rw [if_pos hc, if_neg hne, nI_1]
        simp [hc]
      · rw [if_neg hc, if_pos rfl, nI_1]
        simp [hc]
    have heC : b_X11_follow_17 0 M (nI ((List.range (2 ^ n - 1)).countP (isC n)), nI (2 ^ n - 1)) = some (.inr (nI ((List.range (2 ^ n - 1)).countP (isC n)))) := by
      unfold b_X11_follow_17
      simp only [Lt_eq, h00, Gd_t hkd]
      rw [hall, if_pos (nI_le (Nat.le_refl _) (by omega))]
    have hsM : ∀ i, i < 2 ^ n - 1 → b_X12_follow_14 128 M (nI ((List.range i).countP (isC n)), nI i) = some (.inl (nI ((List.range (i + 1)).countP (isC n)), nI (i + 1))) := fun i hi => by
      unfold b_X12_follow_14
      simp only [Lt_eq]
      rw [m16, all_spec n (by omega), if_neg (nI_ge hi (by omega)), isChange_spec n (by omega) i (by omega) (by omega), Bd_some, nI_1, List.range_succ, List.countP_append]
      by_cases hc : isC n i = true
      · rw [if_pos hc, if_neg one_ne, nI_1]
        simp [hc]
      · rw [if_neg hc, if_pos rfl]
        simp [hc]
    have heM : b_X12_follow_14 128 M (nI ((List.range (2 ^ n - 1)).countP (isC n)), nI (2 ^ n - 1)) = some (.inr (nI ((List.range (2 ^ n - 1)).countP (isC n)))) := by
      unfold b_X12_follow_14
      simp only [Lt_eq]
      rw [m16, all_spec n (by omega), if_pos (nI_le (Nat.le_refl _) (by omega))]
    exact ⟨_, Bd_Lp (s0 := ((0 : Int32), (0 : Int32))) (fun i => (nI ((List.range i).countP (isC n)), nI i)) (2 ^ n - 1) _ rfl hsC heC (by omega), Bd_Lp (s0 := ((0 : Int32), (0 : Int32))) (fun i => (nI ((List.range i).countP (isC n)), nI i)) (2 ^ n - 1) _ rfl hsM heM (by omega)⟩
theorem dry_b : b_X11_dry_30 = b_X12_dry_30 := rfl
theorem op_dry (x y : Int32) : ∃ r, f_X11_dry 0 x y = some r ∧ f_X12_dry 128 x y = some r := by
  unfold f_X11_dry f_X12_dry
  rcases rng_cases 0 60 (by omega) (by omega) x with ⟨a, -, ha, rfl⟩ | hx
  · rw [if_neg (nI_lt0 (by omega)), if_neg (show ¬ (60 : Int32) < nI a from nI_nlt (a := 60) ha (by omega)), show f_X12_in (nI a) (0 : Int32) (60 : Int32) = 1 from in_1 (lo := 0) (hi := 60) (by omega) ha (by omega), if_neg one_ne]
    rcases rng_cases 0 100 (by omega) (by omega) y with ⟨b, -, hb, rfl⟩ | hy
    · rw [if_neg (nI_lt0 (by omega)), if_pos (show nI b ≤ (100 : Int32) from nI_le (b := 100) hb (by omega)), show f_X12_in (nI b) (0 : Int32) (100 : Int32) = 1 from in_1 (lo := 0) (hi := 100) (by omega) hb (by omega), if_neg one_ne]
      have key := Lp_inv (f := b_X12_dry_30 (nI a) (nI b)) (fun s => ∃ i, i ≤ a ∧ s.2 = nI i) (fun s => a - s.2.toNatClampNeg) (fun _ => True) (fun s hs => by
        obtain ⟨i, hi, he⟩ := hs
        obtain ⟨v, x⟩ := s
        simp only at he
        subst he
        unfold b_X12_dry_30
        simp only [Lt_eq]
        by_cases hin : i = a
        · exact Or.inr ⟨_, by rw [if_pos (nI_le (by omega) (by omega))], trivial⟩
        · refine Or.inl ⟨_, by rw [if_neg (nI_ge (show i < a by omega) (by omega)), nI_1], ⟨i + 1, by omega, rfl⟩, ?_⟩
          show a - (nI (i + 1)).toNatClampNeg < a - (nI i).toNatClampNeg
          rw [nI_clamp (by omega), nI_clamp (by omega)]
          omega) 100000 ((1000000000 : Int64), (0 : Int32)) ⟨0, by omega, rfl⟩ (by show a - _ < _; omega)
      obtain ⟨v, g1, -⟩ := key
      exact ⟨_, by rw [dry_b, g1, Bd_some], by rw [g1, Bd_some]⟩
    · rw [show f_X12_in y (0 : Int32) (100 : Int32) = 0 from in_0 (lo := 0) (hi := 100) hy, if_pos rfl]
      refine ⟨_, ?_, rfl⟩
      rcases hy with q | ⟨q1, q2, q3⟩
      · rw [if_pos (show y < 0 from q)]
      · rw [if_neg (show ¬ y < 0 from q1), if_neg (show ¬ y ≤ (100 : Int32) from q3)]
  · rw [show f_X12_in x (0 : Int32) (60 : Int32) = 0 from in_0 (lo := 0) (hi := 60) hx, if_pos rfl]
    refine ⟨_, ?_, rfl⟩
    rcases hx with q | ⟨q1, q2, q3⟩
    · rw [if_pos (show x < 0 from q)]
    · rw [if_neg (show ¬ x < 0 from q1), if_pos (show (60 : Int32) < x from q2)]
