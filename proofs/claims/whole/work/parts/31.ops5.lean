/-! undoing, images, the book -/
theorem op_undo {M : Mm} (h : InvX M) : ∃ r M1 M2, f_X11_undo 0 M = some (r, M1) ∧ f_X12_undo 128 M1 = some (r, M2) ∧ InvX M2 := by
  obtain ⟨t, n, k, ns, C, Me, W, S, E, hI⟩ := id h
  obtain ⟨c1, ⟨hE, hC, hA⟩, c3, c4, c5, ⟨bk, nx, B, b1, b2, b3, ⟨p0, p1, p2⟩, ⟨r0, rr⟩⟩, c7, c8, c9⟩ := id hI
  unfold f_X11_undo f_X12_undo f_X3_restore
  simp only [Lt_eq]
  rw [p0]
  by_cases hb : bk = 0
  · subst hb
    rw [if_pos (show nI 0 = (0 : Int32) from rfl), Bd_some, if_pos rfl]
    exact ⟨_, _, _, rfl, by rw [if_pos (show M 128 26 = 0 from r0)], h⟩
  · rw [if_neg (nI_ne0 (by omega) (by omega)), p1]
    obtain ⟨ny, hny, hny2, hny3⟩ : ∃ ny, ny < 16 ∧ f_X3_within (nI nx - (1 : Int32)) = nI ny ∧ ny = (nx + 15) % 16 := ⟨(nx + 15) % 16, by omega, wi_dn nx b2, rfl⟩
    rw [hny2]
    have e1 : st2 M 41 1 (nI ny) 41 0 - (1 : Int32) = nI (bk - 1) := by
      rw [s2_nk (by omega), p0]; exact pk_sub (b := 1) (by omega)
    rw [e1]
    have e2 : st2 (st2 M 41 1 (nI ny)) 41 0 (nI (bk - 1)) 41 1 = nI ny := by rw [s2_nk (by omega), s2_eq]
    rw [e2, Gd_t ((ib_nI (by omega)).mpr hny), ix_nI (by omega), Gd_t (kd_past hny)]
    have hslot : (nx + 16 - bk + (bk - 1)) % 16 = ny := by omega
    have hB := p2 (bk - 1) (by omega)
    rw [hslot] at hB
    have hB' : CE (42 + 1 + 4 * ny) n k (B (bk - 1)) (st2 (st2 M 41 1 (nI ny)) 41 0 (nI (bk - 1))) := CE_c (fun o j q1 q2 => by rw [s2_ne (by omega), s2_ne (by omega)]) hB
    obtain ⟨M1, g1, g2, g3⟩ := copyFrom_spec (e := 37) hB' (b3 (bk - 1) (by omega)).1 (by omega)
    rw [g1, Bd_some, Bd_some, if_neg one_ne]
    have f1 : ∀ o j, ¬ ((37 ≤ o ∧ o ≤ 40) ∨ o = 41) → M1 o j = M o j := fun o j q => by rw [g3 o (by omega), s2_ne (by omega), s2_ne (by omega)]
    have d0 : M1 41 0 = nI (bk - 1) := by rw [g3 41 (by omega), s2_eq]
    have d1 : M1 41 1 = nI ny := by rw [g3 41 (by omega), s2_nk (by omega), s2_eq]
    have e3 : M1 128 26 = nI bk := by rw [f1 _ _ (by omega)]; exact r0
    obtain ⟨M2, b1', b2', b3', b4'⟩ := bring_spec (M := st2 M1 128 26 (nI (bk - 1))) (o0 := 138) (o2 := 136) (a := 23 * (bk - 1)) (b := 0) (n := 23) (by rw [kl_139]; omega) (by rw [kl_137]; omega) (by rw [kl_139]; omega) (by rw [kl_137]; omega) (Or.inl (by omega))
    have hf : ∀ o j, ¬ ((37 ≤ o ∧ o ≤ 41) ∨ o = 136 ∨ (o = 128 ∧ j = 26)) → M2 o j = M o j := fun o j q => by rw [b4' o (by omega), s2_at, if_neg (by omega), f1 o j (by omega)]
    have hc : ∀ o j, o ≤ 127 → M2 o j = M1 o j := fun o j q => by rw [b4' o (by omega), s2_ne (by omega)]
    refine ⟨nI (bk - 1), M1, M2, ?_, ?_, t, n, k, ns, C, Me, W, S, B (bk - 1), Inv_ev (fun o j q => hf o j (by omega)) hI ⟨b3 (bk - 1) (by omega), CE_c (fun o j q1 q2 => hc o j (by omega)) g2, fun j hj => ?_⟩ ⟨bk - 1, ny, B, by omega, hny, fun i hi => b3 i (by omega), ⟨by rw [hc _ _ (by omega)]; exact d0, by rw [hc _ _ (by omega)]; exact d1, fun i hi => ?_⟩, ⟨?_, fun i hi j hj => ?_⟩⟩ (IS_c (fun o j q => hf o j (by omega)) c5)⟩
    · show some (M1 41 0, M1) = _
      rw [d0]
    · rw [e3, if_neg (nI_ne0 (by omega) (by omega)), show nI bk - (1 : Int32) = nI (bk - 1) from pk_sub (b := 1) (by omega), s2_eq, show (23 : Int32) * nI (bk - 1) = nI (23 * (bk - 1)) from pk_mul 23 (bk - 1)]
      rw [show f_X12_bring 138 (nI (23 * (bk - 1))) 136 (0 : Int32) (23 : Int32) (st2 M1 128 26 (nI (bk - 1))) = some M2 from b1', Bd_some, b4' 128 (by omega), s2_eq]
    · have := b2' j hj
      rw [show 0 + j = j by omega] at this
      rw [this, s2_ne (by omega), f1 _ _ (by omega)]
      exact rr (bk - 1) (by omega) j hj
    · have : (ny + 16 - (bk - 1) + i) % 16 = (nx + 16 - bk + i) % 16 := by omega
      rw [this]
      exact CE_c (fun o j q1 q2 => hf o j (by omega)) (p2 i (by omega))
    · rw [b4' 128 (by omega), s2_eq]
    · rw [hf _ _ (by omega)]
      exact rr i (by omega) j hj
theorem kd_img {i : Nat} (h : i < 2) : KDF[120 + 4 * i]? = some (1, 0) := by
  rcases (show i = 0 ∨ i = 1 by omega) with rfl | rfl <;> rfl
theorem img_or : ∀ kb, kb < 4 → ∀ i, i < 2 → nI kb ||| (sl (1 : Int32) (nI i)) = nI (kb ||| 2 ^ i) ∧ kb ||| 2 ^ i < 4 := by decide +kernel
theorem img_bit : ∀ kb, kb < 4 → ∀ i, i < 2 → ∀ j, j < 2 → (kb ||| 2 ^ i).testBit j = (if j = i then true else kb.testBit j) := by decide +kernel
theorem nlt2 {x : Int32} (h : nI 1 < x) : ¬ x < (2 : Int32) := fun q => by
  have h1 := Int32.lt_iff_toInt_lt.mp h
  have h2 := Int32.lt_iff_toInt_lt.mp q
  have e1 : (nI 1).toInt = 1 := by decide
  have e2 : (2 : Int32).toInt = 2 := by decide
  omega
theorem op_keep {M : Mm} (x : Int32) (h : InvX M) : ∃ r M1 M2, f_X11_keep 0 x M = some (r, M1) ∧ f_X12_keep 128 x M1 = some (r, M2) ∧ InvX M2 := by
  unfold f_X11_keep f_X12_keep
  rcases rng_cases 0 1 (by omega) (by omega) x with ⟨i, -, hi1, rfl⟩ | hx
  · obtain ⟨t, n, k, ns, C, Me, W, S, E, hI⟩ := id h
    obtain ⟨c1, ⟨hE, hC, hA⟩, c3, c4, ⟨sd, s1, s2, s3⟩, c6, ⟨kb, k1, k2, k3⟩, c8, c9⟩ := id hI
    have hi : i < 2 := by omega
    simp only [Lt_eq]
    rw [if_neg (nI_lt0 (by omega)), if_pos (show nI i < (2 : Int32) from nI_lt (b := 2) hi (by omega)), Gd_t ((ib_nI (by omega)).mpr hi), ix_nI (by omega), Gd_t (kd_img hi)]
    obtain ⟨M1, g1, g2, g3⟩ := copyFrom_spec (e := 120 + 4 * i) hC hE.1 (by omega)
    rw [g1, Bd_some, Gd_t ((ib_nI (by omega)).mpr hi)]
    have f0 : M1 0 = M 0 := g3 0 (by omega)
    have e7 : st2 M1 108 i (M1 0 15) 0 7 = nI kb := by rw [s2_ne (by omega), f0, k2]
    rw [e7, (img_or kb k1 i hi).1, f0, s2]
    unfold f_X3_forget
    simp only [Lt_eq, Bd_some]
    generalize hM2 : st2 (st2 (st2 (st2 M1 108 i (nI sd)) 0 7 (nI (kb ||| 2 ^ i))) 41 0 0) 41 1 0 = M2
    have f2 : ∀ o j, ¬ ((120 + 4 * i ≤ o ∧ o ≤ 123 + 4 * i) ∨ (o = 108 ∧ j = i) ∨ (o = 0 ∧ j = 7) ∨ o = 41) → M2 o j = M o j := fun o j q => by
      rw [← hM2, s2_at, if_neg (by omega), s2_at, if_neg (by omega), s2_at, if_neg (by omega), s2_at, if_neg (by omega), g3 o (by omega)]
    obtain ⟨M3, b1', b2', b3', b4'⟩ := bring_spec (M := M2) (o0 := 136) (o2 := 139) (a := 0) (b := 23 * i) (n := 23) (by rw [kl_137]; omega) (by rw [show kln 139 = 46 by decide]; omega) (by rw [kl_137]; omega) (by rw [show kln 139 = 46 by decide]; omega) (Or.inl (by omega))
    have hc : ∀ o j, o ≤ 127 → st2 (st2 (st2 M3 140 i (nI sd)) 141 i 1) 128 26 0 o j = M2 o j := fun o j q => by rw [s2_ne (by omega), s2_ne (by omega), s2_ne (by omega), b4' o (by omega)]
    have hf : ∀ o j, ¬ ((120 + 4 * i ≤ o ∧ o ≤ 123 + 4 * i) ∨ (o = 108 ∧ j = i) ∨ (o = 0 ∧ j = 7) ∨ o = 41 ∨ (o = 139 ∧ 23 * i ≤ j ∧ j < 23 * i + 23) ∨ (o = 140 ∧ j = i) ∨ (o = 141 ∧ j = i) ∨ (o = 128 ∧ j = 26)) → st2 (st2 (st2 M3 140 i (nI sd)) 141 i 1) 128 26 0 o j = M o j := fun o j q => by
      rw [s2_at, if_neg (by omega), s2_at, if_neg (by omega), s2_at, if_neg (by omega)]
      by_cases h140 : o = 139
      · subst h140; rw [b3' j (by omega), f2 139 j (by omega)]
      · rw [b4' o h140, f2 o j (by omega)]
    refine ⟨1, M2, st2 (st2 (st2 M3 140 i (nI sd)) 141 i 1) 128 26 0, rfl, ?_, t, n, k, ns, C, Me, W, S, E, IT_c (fun o j q => hf o j (by omega)) c1, IE_c (fun o j q => hf o j (by omega)) ⟨hE, hC, hA⟩, IX_c (fun o j q => hf o j (by omega)) c3, IF_c (fun o j q => hf o j (by omega)) c4, ⟨sd, s1, by rw [hf _ _ (by omega)]; exact s2, by rw [hf _ _ (by omega)]; exact s3⟩, ⟨0, 0, fun _ _ => 0, by omega, by omega, fun i hi => by omega, ⟨?_, ?_, fun i hi => by omega⟩, ⟨by rw [s2_eq]; rfl, fun i hi => by omega⟩⟩, ⟨kb ||| 2 ^ i, (img_or kb k1 i hi).2, ?_, fun j hj => ?_⟩, IH_c (fun o j q => hf o j (by omega)) c8, IW_c (fun o j q => hf o j (by omega)) c9⟩
    · rw [show f_X12_in (nI i) (0 : Int32) (1 : Int32) = 1 from in_1 (lo := 0) (hi := 1) (by omega) hi1 (by omega), if_neg one_ne, show (23 : Int32) * nI i = nI (23 * i) from pk_mul 23 i]
      rw [show f_X12_bring 136 (0 : Int32) 139 (nI (23 * i)) (23 : Int32) M2 = some M3 from b1', Bd_some, Gd_t ((ib_nI (by omega)).mpr hi), Gd_t ((ib_nI (by omega)).mpr hi), b4' 128 (by omega), f2 128 30 (by omega), s3]
      rfl
    · rw [hc _ _ (by omega), ← hM2, s2_nk (by omega), s2_eq]; rfl
    · rw [hc _ _ (by omega), ← hM2, s2_eq]; rfl
    · rw [hc _ _ (by omega), ← hM2, s2_ne (by omega), s2_ne (by omega), s2_eq]
    · rw [img_bit kb k1 i hi j hj]
      by_cases hji : j = i
      · subst hji
        refine ⟨by rw [s2_ne (by omega), s2_eq, if_pos rfl, if_pos rfl], fun _ => ⟨E, sd, hE, s1, CE_c (M := M1) (fun o q d1 d2 => ?_) g2, ?_, ?_, fun q hq => ?_⟩⟩
        · rw [hc _ _ (by omega), ← hM2, s2_ne (by omega), s2_ne (by omega), s2_ne (by omega), s2_ne (by omega)]
        · rw [hc _ _ (by omega), ← hM2, s2_ne (by omega), s2_ne (by omega), s2_ne (by omega), s2_eq]
        · rw [s2_ne (by omega), s2_ne (by omega), s2_eq]
        · rw [s2_ne (by omega), s2_ne (by omega), s2_ne (by omega), b2' q hq, show 0 + q = q by omega, f2 _ _ (by omega)]
          exact hA q hq
      · rw [if_neg hji]
        refine ⟨by rw [hf _ _ (by omega)]; exact (k3 j hj).1, fun hb => ?_⟩
        obtain ⟨E2, sd2, u1, u2, u3, u4, u5, u6⟩ := (k3 j hj).2 hb
        exact ⟨E2, sd2, u1, u2, CE_c (fun o q d1 d2 => hf o q (by omega)) u3, by rw [hf _ _ (by omega)]; exact u4, by rw [hf _ _ (by omega)]; exact u5, fun q hq => by rw [hf _ _ (by omega)]; exact u6 q hq⟩
  · have e0 : f_X12_in x (0 : Int32) (1 : Int32) = 0 := in_0 (lo := 0) (hi := 1) hx
    rcases hx with hx | ⟨h1, h2, h3⟩
    · rw [if_pos (show x < 0 from hx)]
      exact ⟨_, _, _, rfl, by rw [e0, if_pos rfl], h⟩
    · rw [if_neg (show ¬ x < 0 from h1), if_neg (nlt2 h2)]
      exact ⟨_, _, _, rfl, by rw [e0, if_pos rfl], h⟩
theorem op_goBack {M : Mm} (x : Int32) (h : InvX M) : ∃ r M1 M2, f_X11_goBack 0 x M = some (r, M1) ∧ f_X12_goBack 128 x M1 = some (r, M2) ∧ InvX M2 := by
  unfold f_X11_goBack f_X12_goBack
  rcases rng_cases 0 1 (by omega) (by omega) x with ⟨i, -, hi1, rfl⟩ | hx
  · obtain ⟨t, n, k, ns, C, Me, W, S, E, hI⟩ := id h
    obtain ⟨c1, ⟨hE, hC, hA⟩, c3, c4, ⟨sd, s1, s2, s3⟩, c6, ⟨kb, k1, k2, k3⟩, c8, c9⟩ := id hI
    have hi : i < 2 := by omega
    have hin : f_X12_in (nI i) (0 : Int32) (1 : Int32) = 1 := in_1 (lo := 0) (hi := 1) (by omega) hi1 (by omega)
    simp only [Lt_eq]
    rw [if_neg (nI_lt0 (by omega)), if_pos (show nI i < (2 : Int32) from nI_lt (b := 2) hi (by omega)), k2, bit_nI (by omega) (by omega)]
    by_cases hb : kb.testBit i = true
    · obtain ⟨E2, sd2, u1, u2, u3, u4, u5, u6⟩ := (k3 i hi).2 hb
      have u0 := (k3 i hi).1
      rw [if_pos hb] at u0
      rw [if_pos hb, if_neg one_ne, Gd_t ((ib_nI (by omega)).mpr hi), ix_nI (by omega), Gd_t (kd_img hi)]
      obtain ⟨M1, g1, g2, g3⟩ := copyFrom_spec (e := 37) u3 u1.1 (by omega)
      rw [g1, Bd_some, Gd_t ((ib_nI (by omega)).mpr hi), g3 108 (by omega), u4]
      unfold f_X3_forget
      simp only [Lt_eq, Bd_some]
      generalize hM2 : st2 (st2 (st2 M1 0 15 (nI sd2)) 41 0 0) 41 1 0 = M2
      have f2 : ∀ o j, ¬ ((37 ≤ o ∧ o ≤ 41) ∨ (o = 0 ∧ j = 15)) → M2 o j = M o j := fun o j q => by
        rw [← hM2, s2_at, if_neg (by omega), s2_at, if_neg (by omega), s2_at, if_neg (by omega), g3 o (by omega)]
      obtain ⟨M3, b1', b2', b3', b4'⟩ := bring_spec (M := M2) (o0 := 139) (o2 := 136) (a := 23 * i) (b := 0) (n := 23) (by rw [show kln 139 = 46 by decide]; omega) (by rw [kl_137]; omega) (by rw [show kln 139 = 46 by decide]; omega) (by rw [kl_137]; omega) (Or.inl (by omega))
      have hc : ∀ o j, o ≤ 127 → st2 (st2 M3 128 30 (nI sd2)) 128 26 0 o j = M2 o j := fun o j q => by rw [s2_ne (by omega), s2_ne (by omega), b4' o (by omega)]
      have hf : ∀ o j, ¬ ((37 ≤ o ∧ o ≤ 41) ∨ (o = 0 ∧ j = 15) ∨ o = 136 ∨ (o = 128 ∧ j = 30) ∨ (o = 128 ∧ j = 26)) → st2 (st2 M3 128 30 (nI sd2)) 128 26 0 o j = M o j := fun o j q => by
        rw [s2_at, if_neg (by omega), s2_at, if_neg (by omega), b4' o (by omega), f2 o j (by omega)]
      refine ⟨1, M2, st2 (st2 M3 128 30 (nI sd2)) 128 26 0, rfl, ?_, t, n, k, ns, C, Me, W, S, E2, Inv_ev (fun o j q => hf o j (by omega)) hI ⟨u1, CE_c (M := M1) (fun o j q1 q2 => ?_) g2, fun j hj => ?_⟩ ⟨0, 0, fun _ _ => 0, by omega, by omega, fun i hi => by omega, ⟨?_, ?_, fun i hi => by omega⟩, ⟨by rw [s2_eq]; rfl, fun i hi => by omega⟩⟩ ⟨sd2, u2, ?_, ?_⟩⟩
      · rw [hin, if_neg one_ne, Gd_t ((ib_nI (by omega)).mpr hi), f2 141 _ (by omega), u0, if_neg one_ne, show (23 : Int32) * nI i = nI (23 * i) from pk_mul 23 i]
        rw [show f_X12_bring 139 (nI (23 * i)) 136 (0 : Int32) (23 : Int32) M2 = some M3 from b1', Bd_some, Gd_t ((ib_nI (by omega)).mpr hi), b4' 140 (by omega), f2 140 _ (by omega), u5]
      · rw [hc _ _ (by omega), ← hM2, s2_ne (by omega), s2_ne (by omega), s2_ne (by omega)]
      · rw [s2_ne (by omega), s2_ne (by omega)]
        have := b2' j hj
        rw [show 0 + j = j by omega] at this
        rw [this, f2 _ _ (by omega)]
        exact u6 j hj
      · rw [hc _ _ (by omega), ← hM2, s2_nk (by omega), s2_eq]; rfl
      · rw [hc _ _ (by omega), ← hM2, s2_eq]; rfl
      · rw [hc _ _ (by omega), ← hM2, s2_ne (by omega), s2_ne (by omega), s2_eq]
      · rw [s2_nk (by omega), s2_eq]
    · have u0 := (k3 i hi).1
      rw [if_neg hb] at u0
      rw [if_neg hb, if_pos rfl]
      exact ⟨_, _, _, rfl, by rw [hin, if_neg one_ne, Gd_t ((ib_nI (by omega)).mpr hi), ix_nI (by omega), u0, if_pos rfl], h⟩
  · have e0 : f_X12_in x (0 : Int32) (1 : Int32) = 0 := in_0 (lo := 0) (hi := 1) hx
    rcases hx with hx | ⟨h1, h2, h3⟩
    · rw [if_pos (show x < 0 from hx)]
      exact ⟨_, _, _, rfl, by rw [e0, if_pos rfl], h⟩
    · rw [if_neg (show ¬ x < 0 from h1), if_neg (nlt2 h2)]
      exact ⟨_, _, _, rfl, by rw [e0, if_pos rfl], h⟩
