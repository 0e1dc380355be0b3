/-! tower: both together -/
theorem op_tower {M : Mm} (h : InvX M) : ∃ r M1 M2, f_X11_tower 0 M = some (r, M1) ∧ f_X12_tower 128 M1 = some (r, M2) ∧ InvX M2 := by
  obtain ⟨t, n, k, ns, C, Me, W, S, E, hI⟩ := id h
  obtain ⟨n1, n2, n3, n4, n5⟩ := inv_n hI
  obtain ⟨c1, c2, c3, c4, c5, c6, c7, c8, c9⟩ := id hI
  obtain ⟨hV, h0, h1, hTW, ⟨m16, m17, m18, m19, mMe, mW, mS⟩⟩ := id c1
  have ht := hTW.1
  obtain ⟨len, tx, hlen, x0, x1, x2⟩ := id c3
  have hC : CTx len tx M := ⟨hlen, x0, fun i hi => ⟨(x2 i hi).1, (x2 i hi).2.1⟩⟩
  have hR : ∀ M1 : Mm, (∀ o j, 128 ≤ o → M1 o j = M o j) → RTx len tx M1 := fun M1 g => ⟨hlen, (g _ _ (by omega)).trans x1, fun i hi => ⟨(x2 i hi).1, (g _ _ (by omega)).trans (x2 i hi).2.2⟩⟩
  have hdt : 19 - t = 1 ∨ 19 - t = 18 := by omega
  have hc1 : (M 0 1).toNatClampNeg = 19 - t := by rw [h1, nI_clamp (by omega)]
  rcases read_cases hlen (fun i hi => (x2 i hi).1) with ⟨fl, pos, w1, w2, w3, w4⟩ | ⟨n', k', ns', cl, W', Me', S', w0, w3, w4⟩
  · obtain ⟨Mc, a1, a2, a3, a4⟩ := w3 M (19 - t) hdt hC
    generalize hM1 : st2 Mc 0 14 (nI pos) = M1
    have f1 : ∀ o j, ¬ (o = 35 ∨ (19 - t ≤ o ∧ o ≤ 19 - t + 16) ∨ (o = 0 ∧ j = 14)) → M1 o j = M o j := fun o j g => by rw [← hM1, s2_at, if_neg (by omega), a4 o j (by omega)]
    have e1 : f_X11_tower 0 M = some ((-10 : Int32) - nI fl, M1) := by
      unfold f_X11_tower
      rw [Gd_t (show KDF[(M 0 1).toNatClampNeg]? = some (9, 0) by rw [hc1]; exact kd_tw hdt), hc1, a1, Bd_some, Lt_eq, if_neg (show ¬ (nI fl, Mc).1 = 0 from nI_ne0 w1.1 (by omega))]
      show some ((-10 : Int32) - nI fl, st2 Mc 0 14 (Mc 35 1)) = _
      rw [a3, hM1]
    obtain ⟨Mr, b1, b2, b3, b4⟩ := w4 M1 (hR M1 (fun o j g => f1 o j (by omega)))
    have e2 : f_X12_tower 128 M1 = some ((-10 : Int32) - nI fl, st2 Mr 128 0 (0 : Int32)) := by
      rw [tower_eq, b1, Bd_some, Lt_eq, if_pos (show ((0 : Int32), Mr).1 = 0 from rfl)]
      show some ((-10 : Int32) - (st2 Mr 128 0 (0 : Int32)) 128 8, st2 Mr 128 0 (0 : Int32)) = _
      rw [s2_nk (show 8 ≠ 0 by omega), b3]
    generalize hM2 : st2 Mr 128 0 (0 : Int32) = M2 at e2
    have f2 : ∀ o j, ¬ (o = 35 ∨ (19 - t ≤ o ∧ o ≤ 19 - t + 16) ∨ (o = 0 ∧ j = 14) ∨ (o = 128 ∧ j ≤ 12) ∨ (130 ≤ o ∧ o ≤ 132)) → M2 o j = M o j := fun o j g => by rw [← hM2, s2_at, if_neg (by omega), b4 o j (by omega), f1 o j (by omega)]
    have g1 : ∀ o j, o ≤ 127 → M2 o j = M1 o j := fun o j g => by rw [← hM2, s2_at, if_neg (by omega), b4 o j (by omega)]
    refine ⟨_, M1, M2, e1, e2, t, n, k, ns, C, Me, W, S, E, ⟨hV, by rw [f2 0 0 (by omega)]; exact h0, by rw [f2 0 1 (by omega)]; exact h1, TWt_c n3 (fun o j g => f2 o j (by omega)) hTW, ⟨by rw [f2 _ _ (by omega)]; exact m16, by rw [f2 _ _ (by omega)]; exact m17, by rw [f2 _ _ (by omega)]; exact m18, by rw [f2 _ _ (by omega)]; exact m19, fun i hi => by rw [f2 _ _ (by omega)]; exact mMe i hi, fun i hi => by rw [f2 _ _ (by omega)]; exact mW i hi, fun i hi => by rw [f2 _ _ (by omega)]; exact mS i hi⟩⟩, IE_c (fun o j g => f2 o j (by omega)) c2, ⟨0, tx, by omega, ?_, ?_, fun i hi => absurd hi (by omega)⟩, ?_, IS_c (fun o j g => f2 o j (by omega)) c5, IB_c (fun o j g => f2 o j (by omega)) c6, II_c (fun o j g => f2 o j (by omega)) c7, IH_c (fun o j g => f2 o j (by omega)) c8, IW_c (fun o j g => f2 o j (by omega)) c9⟩
    · rw [g1 35 0 (by omega), ← hM1, s2_ne (by omega), a2]; rfl
    · rw [← hM2, s2_eq]; rfl
    · show M2 0 14 = M2 128 7
      rw [g1 0 14 (by omega), ← hM1, s2_eq, ← hM2, s2_nk (by omega), b2]
  · obtain ⟨Mc, a1, a2, a3, a4, a5⟩ := w3 M (19 - t) hdt hC
    have hV' := VD_TV w0
    obtain ⟨v6, v12, vns⟩ := VD_n w0
    obtain ⟨M1, e1, d0, d1, d15, d7, dT, dC, d2, d3, d4, d5, d6, d8, dF⟩ := towC_ok ht hdt h0 h1 hV' a1 a3 a4 a5
    obtain ⟨Mr, b1, b2, b3⟩ := w4 M1 (hR M1 (fun o j g => dF o j (by omega)))
    obtain ⟨M2, g1, gM, gx, g7, gA, g31, g33, g26, g0, g2, gF⟩ := towR_ok w0 b1 b2 b3
    have hc : ∀ o j, o ≤ 127 → M2 o j = M1 o j := fun o j g => gF o j (by omega)
    obtain ⟨sd, s1, s2, s3⟩ := id c5
    refine ⟨nI n', M1, M2, e1, g1, 19 - t, n', kF n' k', ns', clF n' cl, meF n' k' Me', W', S', nwE, ⟨hV', by rw [hc 0 0 (by omega)]; exact d0, ?_, TWt_c (kF_le v12) (fun o j g => hc o j (by omega)) dT, gM⟩, ⟨EQ_nw v6 vns, CE_c (fun o j q1 q2 => hc o j (by omega)) dC, gA⟩, ⟨0, tx, by omega, ?_, gx, fun i hi => absurd hi (by omega)⟩, ?_, ⟨sd, s1, ?_, ?_⟩, ⟨0, 0, fun _ _ => 0, by omega, by omega, fun i hi => absurd hi (by omega), ⟨by rw [hc 41 0 (by omega)]; exact d5, by rw [hc 41 1 (by omega)]; exact d6, fun i hi => absurd hi (by omega)⟩, ⟨g26, fun i hi => absurd hi (by omega)⟩⟩, ⟨0, by omega, by rw [hc 0 7 (by omega)]; exact d7, fun i hi => ⟨?_, fun hb => ?_⟩⟩, ⟨0, fun _ => 0, fun _ => 0, by omega, fun _ => rfl, by rw [hc 117 0 (by omega)]; exact d2, g31, by rw [hc 117 1 (by omega)]; exact d3, fun i hi => absurd hi (by omega)⟩, ⟨0, fun _ => 0, fun _ => 0, by omega, by rw [hc 117 2 (by omega)]; exact d4, g33, fun i hi => absurd hi (by omega)⟩⟩
    · rw [hc 0 1 (by omega), show 19 - (19 - t) = t by omega]; exact d1
    · rw [hc 35 0 (by omega), d8, a2]; rfl
    · show M2 0 14 = M2 128 7
      rw [hc 0 14 (by omega), d15, g7]
    · rw [hc 0 15 (by omega), dF 0 15 (by omega)]; exact s2
    · rw [gF 128 30 (by omega), dF 128 30 (by omega)]; exact s3
    · rw [Nat.zero_testBit]
      rcases (show i = 0 ∨ i = 1 by omega) with rfl | rfl
      · exact g0
      · exact g2
    · rw [Nat.zero_testBit] at hb
      exact absurd hb (by simp)
