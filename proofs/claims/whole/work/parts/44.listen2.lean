theorem heardL_spec {n : Nat} {w : Nat → Nat} {M : Mm} (hn : n ≤ 6) (m16 : M 128 16 = nI n) (hp : prm n w) (hr : ∀ p, p < n → M 137 (5 + p) = nI (w p)) : ∃ M', Lp (b_X12_listen_41 128) 100000 ((0 : Int32), M) = some M' ∧ (∀ b, b < n → M' 147 b = nI (figs n (ltR n b w))) ∧ ∀ o, o ≠ 137 → o ≠ 147 → M' o = M o := by
  have key := Lp_inv (f := b_X12_listen_41 128) (fun s => ∃ i, i ≤ n ∧ s.1 = nI i ∧ (∀ b, b < i → s.2 147 b = nI (figs n (ltR n b w))) ∧ (∀ p, p < n → s.2 137 (5 + p) = nI (w p)) ∧ ∀ o, o ≠ 137 → o ≠ 147 → s.2 o = M o) (fun s => n - s.1.toNatClampNeg) (fun t => (∀ b, b < n → t 147 b = nI (figs n (ltR n b w))) ∧ ∀ o, o ≠ 137 → o ≠ 147 → t o = M o) (fun s hs => by
    obtain ⟨i, hi, hx, hB, hR, hF⟩ := hs
    obtain ⟨x, Mi⟩ := s
    simp only at hx hB hR hF
    subst hx
    have f16 : Mi 128 16 = nI n := by rw [hF 128 (by omega) (by omega)]; exact m16
    by_cases hin : i = n
    · subst hin
      exact Or.inr ⟨Mi, by unfold b_X12_listen_41; rw [if_pos (show Mi 128 16 ≤ nI i by rw [f16]; exact nI_le (Nat.le_refl _) (by omega))], hB, hF⟩
    · obtain ⟨M1, g1, g2, g3⟩ := heardOf_spec hn f16 hp (show i < n by omega) hR
      refine Or.inl ⟨(nI (i + 1), st2 M1 147 i (nI (figs n (ltR n i w)))), ?_, ⟨i + 1, by omega, rfl, fun b hb => ?_, fun p hp => ?_, fun o q1 q2 => ?_⟩, ?_⟩
      · unfold b_X12_listen_41
        simp only [Lt_eq]
        rw [if_neg (show ¬ Mi 128 16 ≤ nI i by rw [f16]; exact nI_ge (by omega) (by omega)), g1, Bd_some, Gd_t ((ib_nI (by omega)).mpr (by omega)), ix_nI (by omega), nI_1]
      · show st2 M1 147 i (nI (figs n (ltR n i w))) 147 b = _
        rw [s2_at]
        by_cases e : b = i
        · rw [if_pos ⟨rfl, e⟩, e]
        · rw [if_neg (by omega), g3 147 (by omega)]
          exact hB b (by omega)
      · show st2 M1 147 i (nI (figs n (ltR n i w))) 137 (5 + p) = _
        rw [s2_ne (by omega)]
        exact g2 p hp
      · show st2 M1 147 i (nI (figs n (ltR n i w))) o = _
        rw [s2_ne q2, g3 o q1]
        exact hF o q1 q2
      · show n - (nI (i + 1)).toNatClampNeg < n - (nI i).toNatClampNeg
        rw [nI_clamp (by omega), nI_clamp (by omega)]
        omega) 100000 ((0 : Int32), M) ⟨0, by omega, rfl, fun b hb => absurd hb (by omega), hr, fun _ _ _ => rfl⟩ (by show n - _ < _; omega)
  exact key
theorem mostM_spec {n x : Nat} {H : Nat → Nat} {Mz2 M : Mm} (hn : n ≤ 6) (hx : x < 64) (m16 : M 128 16 = nI n) (hH : ∀ b, b < n → M 147 b = nI (H b) ∧ H b < 1000000) : Lp (b_X12_listen_75 128 (nI x, Mz2) M) 100000 ((0 : Int32), (0 : Int32)) = some (nI (gpA n x H)) := by
  have inner : ∀ a, a < n → ∀ sd : Int32, Lp (b_X12_listen_90 128 (nI x, Mz2) M (sd, nI a)) 100000 ((0 : Int32), (0 : Int32)) = some (nI (if x.testBit a = true then smF (fun b => if x.testBit b = true then (if H b = H a then 1 else 0) else 0) n else 0)) := fun a ha sd => by
    have hsum : (if x.testBit a = true then smF (fun b => if x.testBit b = true then (if H b = H a then 1 else 0) else 0) n else 0) = smF (fun b => if x.testBit a = true then (if x.testBit b = true then (if H b = H a then 1 else 0) else 0) else 0) n := by
      by_cases e : x.testBit a = true
      · rw [if_pos e]
        exact smF_congr n (fun b _ => by rw [if_pos e])
      · rw [if_neg e, smF_congr (g := fun _ => 0) n (fun b _ => by rw [if_neg e]), smF_zero]
    rw [hsum]
    have hs : ∀ q, q < n → b_X12_listen_90 128 (nI x, Mz2) M (sd, nI a) (nI (smF (fun b => if x.testBit a = true then (if x.testBit b = true then (if H b = H a then 1 else 0) else 0) else 0) q), nI q) = some (.inl (nI (smF (fun b => if x.testBit a = true then (if x.testBit b = true then (if H b = H a then 1 else 0) else 0) else 0) (q + 1)), nI (q + 1))) := fun q hq => by
      have a1 := (hH q hq).2
      have a2 := (hH a ha).2
      unfold b_X12_listen_90
      simp only [Lt_eq]
      rw [if_neg (show ¬ M 128 16 ≤ nI q by rw [m16]; exact nI_ge hq (by omega)), has_nI (by omega) (by omega), has_nI (by omega) (by omega), Gd_t ((ib_nI (by omega)).mpr (by omega)), Gd_t ((ib_nI (by omega)).mpr (by omega)), ix_nI (by omega), ix_nI (by omega), nI_1]
      show _ = some (Sum.inl (nI (smF _ q + if x.testBit a = true then (if x.testBit q = true then (if H q = H a then 1 else 0) else 0) else 0), _))
      have z0 : ∀ z : Nat, nI z + (0 : Int32) = nI (z + 0) := fun z => nI_add z 0
      by_cases e1 : x.testBit a = true
      · rw [if_pos e1, if_pos e1, if_neg one_ne]
        by_cases e2 : x.testBit q = true
        · rw [if_pos e2, if_pos e2, if_neg one_ne]
          by_cases e3 : H q = H a
          · rw [if_pos (show M 147 a = M 147 q by rw [(hH q hq).1, (hH a ha).1, e3]), if_pos e3, Bd_some, nI_1]
          · rw [if_neg (show ¬ M 147 a = M 147 q by rw [(hH q hq).1, (hH a ha).1]; exact fun z => e3 (nI_inj (by omega) (by omega) z.symm)), if_neg e3, Bd_some, z0]
        · rw [if_neg e2, if_neg e2, if_pos rfl, Bd_some, z0]
      · rw [if_neg e1, if_neg e1, if_pos rfl, Bd_some, z0]
    have he : b_X12_listen_90 128 (nI x, Mz2) M (sd, nI a) (nI (smF (fun b => if x.testBit a = true then (if x.testBit b = true then (if H b = H a then 1 else 0) else 0) else 0) n), nI n) = some (.inr (nI (smF (fun b => if x.testBit a = true then (if x.testBit b = true then (if H b = H a then 1 else 0) else 0) else 0) n))) := by
      unfold b_X12_listen_90
      rw [if_pos (show M 128 16 ≤ nI n by rw [m16]; exact nI_le (Nat.le_refl _) (by omega))]
    exact Lp_from (s0 := ((0 : Int32), (0 : Int32))) (fun q => (nI (smF (fun b => if x.testBit a = true then (if x.testBit b = true then (if H b = H a then 1 else 0) else 0) else 0) q), nI q)) n _ rfl hs he (by omega)
  generalize hf : (fun a => if x.testBit a = true then smF (fun b => if x.testBit b = true then (if H b = H a then 1 else 0) else 0) n else 0) = f
  have hfa : ∀ a, (if x.testBit a = true then smF (fun b => if x.testBit b = true then (if H b = H a then 1 else 0) else 0) n else 0) = f a := fun a => by rw [← hf]
  have hfle : ∀ a, f a ≤ n := fun a => by
    rw [← hfa a]
    split
    · exact smF_le (fun j => by split; split <;> omega; omega) n
    · omega
  have hmx : ∀ i, mxF f i ≤ n := fun i => mxF_le hfle i
  have hs : ∀ a, a < n → b_X12_listen_75 128 (nI x, Mz2) M (nI (mxF f a), nI a) = some (.inl (nI (mxF f (a + 1)), nI (a + 1))) := fun a ha => by
    have b1 := hfle a
    have b2 := hmx a
    unfold b_X12_listen_75
    simp only [Lt_eq]
    rw [if_neg (show ¬ M 128 16 ≤ nI a by rw [m16]; exact nI_ge ha (by omega)), inner a ha, Bd_some, hfa a, nI_1]
    show _ = some (Sum.inl (nI (if mxF f a < f a then f a else mxF f a), _))
    by_cases e : mxF f a < f a
    · rw [if_neg (nI_ge e (by omega)), if_pos e]
    · rw [if_pos (nI_le (by omega) (by omega)), if_neg e]
  have he : b_X12_listen_75 128 (nI x, Mz2) M (nI (mxF f n), nI n) = some (.inr (nI (mxF f n))) := by
    unfold b_X12_listen_75
    rw [if_pos (show M 128 16 ≤ nI n by rw [m16]; exact nI_le (Nat.le_refl _) (by omega))]
  have hg : gpA n x H = mxF f n := by unfold gpA; rw [hf]
  rw [hg]
  exact Lp_from (s0 := ((0 : Int32), (0 : Int32))) (fun a => (nI (mxF f a), nI a)) n _ rfl hs he (by omega)
theorem gpA_iff {n x : Nat} {f g : Nat → Nat} (h : ∀ a b, a < n → b < n → (f b = f a ↔ g b = g a)) : gpA n x f = gpA n x g := by
  unfold gpA
  refine mxF_congr n (fun a ha => ?_)
  show (if x.testBit a = true then _ else 0) = (if x.testBit a = true then _ else 0)
  split
  · refine smF_congr n (fun b hb => ?_)
    show (if x.testBit b = true then (if f b = f a then 1 else 0) else 0) = (if x.testBit b = true then (if g b = g a then 1 else 0) else 0)
    split
    · by_cases e : f b = f a
      · rw [if_pos e, if_pos ((h a b ha hb).mp e)]
      · rw [if_neg e, if_neg (fun q => e ((h a b ha hb).mpr q))]
    · rfl
  · rfl
theorem op_listen {M : Mm} (h : InvX M) : ∃ r M1 M2, f_X11_listen 0 M = some (r, M1) ∧ f_X12_listen 128 M1 = some (r, M2) ∧ InvX M2 := by
  obtain ⟨t, n, k, ns, C, Me, W, S, E, hI⟩ := id h
  obtain ⟨ht, h00, hkd, t0, t1, t2⟩ := inv_t hI
  obtain ⟨m16, m17, m18, m19⟩ := inv_m hI
  obtain ⟨n1, n2, n3, n4, n5⟩ := inv_n hI
  obtain ⟨⟨hV, z0, z1, hT, hM⟩, c2, c3, c4, c5, c6, c7, ⟨hh, N, R, x1, x2, x3, x4, x5, x6⟩, c9⟩ := id hI
  unfold f_X11_listen f_X12_listen
  simp only [h00, Gd_t hkd, Lt_eq]
  by_cases hn : n = 0
  · subst hn
    rw [stands_0 t0, if_pos rfl]
    exact ⟨_, _, _, rfl, by rw [isTower_0 m16, if_pos rfl], h⟩
  · have hn' : 0 < n := by omega
    have hk := (n4 hn').2
    rw [stands_1 t0 hn' n1, if_neg one_ne, x5]
    have hx64 := lateF_lt (k := k) (Me := Me) (N := N) (R := R) n1 hh
    have hx2n := lateF_lt2 (n := n) (k := k) (Me := Me) (N := N) (R := R) hh
    have hlate : ∀ Mx : Mm, (∀ o, o ≠ 115 → Mx o = M o) → ∃ M', f_X12_lateOnes 128 Mx = some (nI (lateF n k Me N R hh), M') ∧ ∀ o, o ≠ 137 → M' o = Mx o := fun Mx hf => lateOnes_spec hV (MT_c (fun o ho => hf o (by omega)) hM) x1 x2 (by rw [hf 128 (by omega)]; exact x4) (fun i hi => by rw [hf 142 (by omega)]; exact x6 i hi)
    generalize lateF n k Me N R hh = x at *
    have hp := prm_plR (n := n) (k := k) (Me := Me) hk (fun j hj => (hV.2.2.2.1 j hj).2)
    rw [bits_spec x hx64]
    generalize hgp : (fun i => gpA n x (fun b => enc n (ltR n b (plR k Me i)))) = gp
    have hgpi : ∀ i, gpA n x (fun b => enc n (ltR n b (plR k Me i))) = gp i := fun i => by rw [← hgp]
    have hgpl : ∀ i, gp i ≤ n := fun i => by rw [← hgpi i]; exact gpA_le
    generalize hbc : 6 - cntI x 6 = bc
    have hbc6 : bc ≤ 6 := by omega
    have hsl : ∀ i, (lsS gp bc i).2 ≤ 6 := fun i => Nat.le_trans (lsS_le i) hbc6
    have hstop : ∀ i, (lsS gp bc i).2 ≤ 1 → ∀ j, i ≤ j → ¬ gp j < (lsS gp bc i).2 := fun i hi j _ hlt => by
      by_cases hx0 : x = 0
      · have : bc = 0 := by rw [← hbc, hx0]; decide
        have := lsS_le (gp := gp) (bc := bc) i
        omega
      · obtain ⟨a, ha, hab⟩ := some_bit x hx64 hx0
        have han : a < n := by
          by_cases e : a < n
          · exact e
          · have := Nat.testBit_lt_two_pow (x := x) (i := a) (Nat.lt_of_lt_of_le hx2n (Nat.pow_le_pow_right (by omega) (by omega)))
            rw [this] at hab
            exact absurd hab (by simp)
        have := gpA_pos (hv := fun b => enc n (ltR n b (plR k Me j))) han hab
        rw [hgpi j] at this
        omega
    obtain ⟨L100, hl100⟩ : ∃ L100, (lsS gp bc 100).1 = L100 := ⟨_, rfl⟩
    obtain ⟨M0, g1, g2, g3⟩ := wbegin_spec (wo := 115) (t := t) t0 n1
    rw [g1, Bd_some]
    have keyC := Lp_inv (f := b_X11_listen_39 0) (fun s => ∃ i, i ≤ 100 ∧ s.1 = (lsS gp bc i).1 ∧ s.2.1 = nI (lsS gp bc i).2 ∧ s.2.2.1 = nI i ∧ WKr n (plR k Me i) (i % k) 0 (s.2.2.2 115) ∧ ∀ o, o ≠ 115 → s.2.2.2 o = M o) (fun s => 100 - s.2.2.1.toNatClampNeg) (fun r => r.1 = L100 ∧ ∀ o, o ≠ 115 → r.2 o = M o) (fun s hs => by
      obtain ⟨i, hi, h1, h2, h3, hW, hF⟩ := hs
      obtain ⟨v, y, z, Mi⟩ := s
      simp only at h1 h2 h3 hW hF
      subst h3
      subst h2
      subst h1
      have hs6 := hsl i
      by_cases hin : i = 100
      · exact Or.inr ⟨((lsS gp bc i).1, Mi), by unfold b_X11_listen_39; rw [if_pos (show (100 : Int32) ≤ nI i by rw [hin]; decide)], by show (lsS gp bc i).1 = L100; rw [hin]; exact hl100, hF⟩
      · by_cases hst : (lsS gp bc i).2 ≤ 1
        · refine Or.inr ⟨((lsS gp bc i).1, Mi), ?_, ?_, hF⟩
          · unfold b_X11_listen_39
            rw [if_neg (show ¬ (100 : Int32) ≤ nI i from nI_ge (b := 100) (by omega) (by omega)), if_pos (show nI (lsS gp bc i).2 ≤ (1 : Int32) from nI_le (b := 1) hst (by omega))]
          · show (lsS gp bc i).1 = L100
            rw [← hl100, lsS_stay (hstop i hst) 100 hi]
        · have r1 := great_spec (M := Mi) (t := t) (by rw [hF t (by omega)]; exact t0) n1 hx64 (by rw [hF 117 (by omega)]; exact x5) (hp i)
          have hT1 : TW t n k ns C Me W S Mi := TW_c hV (fun o ho => by rw [hF o (by omega)]) hT
          obtain ⟨M2, q1, ⟨q2, q3, q4⟩, q5⟩ := step_spec (wo := 115) hT1 hV hn' hW (Nat.mod_lt _ hk) (by omega) (prm8 n1 (hp i)) (by omega)
          have zz : (Mi 0 0).toNatClampNeg = t := by rw [hF 0 (by omega)]; exact h00
          have hgl := hgpl i
          refine Or.inl ⟨((lsS gp bc (i + 1)).1, nI (lsS gp bc (i + 1)).2, nI (i + 1), M2), ?_, ⟨i + 1, by omega, rfl, rfl, rfl, ⟨?_, ?_, q4⟩, fun o d1 => ?_⟩, ?_⟩
          · unfold b_X11_listen_39
            simp only [Lt_eq]
            rw [if_neg (show ¬ (100 : Int32) ≤ nI i from nI_ge (b := 100) (by omega) (by omega)), if_neg (show ¬ nI (lsS gp bc i).2 ≤ (1 : Int32) from nI_ge (a := 1) (by omega) (by omega))]
            simp only [zz, Gd_t hkd]
            rw [hW.1, r1, Bd_some, hgpi i, q1, Bd_some, nI_1]
            show _ = some (Sum.inl ((if gp i < (lsS gp bc i).2 then (nI i, gp i) else lsS gp bc i).1, nI (if gp i < (lsS gp bc i).2 then (nI i, gp i) else lsS gp bc i).2, _, _))
            by_cases e : gp i < (lsS gp bc i).2
            · rw [if_neg (nI_ge e (by omega)), if_pos e]
            · rw [if_pos (nI_le (show (lsS gp bc i).2 ≤ gp i by omega) (by omega)), if_neg e]
          · show M2 115 0 = _
            rw [q2]
            rfl
          · show M2 115 1 = _
            rw [q3, nxc_mod hk]
          · show M2 o = M o
            rw [q5 o d1, hF o d1]
          · show 100 - (nI (i + 1)).toNatClampNeg < 100 - (nI i).toNatClampNeg
            rw [nI_clamp (by omega), nI_clamp (by omega)]
            omega) 100000 ((-1 : Int32), nI bc, (0 : Int32), M0) ⟨0, by omega, rfl, rfl, rfl, ⟨g2.1, by rw [Nat.zero_mod]; exact g2.2.1, g2.2.2⟩, fun o d1 => g3 o d1⟩ (by show 100 - _ < _; omega)
    obtain ⟨⟨v, MC⟩, k1, k2, k3⟩ := keyC
    simp only at k2 k3
    rw [k2] at k1
    rw [k1, Bd_some]
    obtain ⟨M2, l1, l2⟩ := hlate MC k3
    have l3 : ∀ o, o ≠ 115 → o ≠ 137 → M2 o = M o := fun o d1 d3 => (l2 o d3).trans (k3 o d1)
    have keyM := Lp_inv (f := b_X12_listen_25 128 (nI x, M2)) (fun s => ∃ i, i ≤ 100 ∧ s.1 = (lsS gp bc i).1 ∧ s.2.1 = nI (lsS gp bc i).2 ∧ s.2.2.1 = nI i ∧ ∀ o, o ≠ 115 → o ≠ 137 → o ≠ 147 → s.2.2.2 o = M o) (fun s => 100 - s.2.2.1.toNatClampNeg) (fun r => r.1 = L100 ∧ ∀ o, o ≠ 115 → o ≠ 137 → o ≠ 147 → r.2 o = M o) (fun s hs => by
      obtain ⟨i, hi, h1, h2, h3, hF⟩ := hs
      obtain ⟨v, y, z, Mi⟩ := s
      simp only at h1 h2 h3 hF
      subst h3
      subst h2
      subst h1
      have hs6 := hsl i
      by_cases hin : i = 100
      · exact Or.inr ⟨((lsS gp bc i).1, Mi), by unfold b_X12_listen_25; rw [if_pos (show (100 : Int32) ≤ nI i by rw [hin]; decide)], by show (lsS gp bc i).1 = L100; rw [hin]; exact hl100, hF⟩
      · have hMi : MT n k ns C Me W S Mi := MT_c (fun o ho => hF o (by omega) (by omega) (by omega)) hM
        obtain ⟨ML, a1, a2, a3⟩ := layTrue_spec (m := i) hV hn' hMi (by omega)
        obtain ⟨MH, b1, b2, b3⟩ := heardL_spec n1 (by rw [a3 128 (by omega)]; exact hMi.1) (hp i) a2
        have hH : ∀ b, b < n → MH 147 b = nI (figs n (ltR n b (plR k Me i))) ∧ figs n (ltR n b (plR k Me i)) < 1000000 := fun b hb => ⟨b2 b hb, figs_b n1 (fun p hp2 => by have := ltR_lt n1 (hp i) hb p hp2; omega)⟩
        have hmost := mostM_spec (Mz2 := M2) n1 hx64 (show MH 128 16 = nI n by rw [b3 128 (by omega) (by omega), a3 128 (by omega)]; exact hMi.1) hH
        have hgeq : gpA n x (fun b => figs n (ltR n b (plR k Me i))) = gp i := by
          rw [← hgpi i]
          exact gpA_iff (fun a b ha hb => (rowsEq (ltR_lt n1 (hp i) hb) (ltR_lt n1 (hp i) ha)).symm)
        rw [hgeq] at hmost
        have hgl := hgpl i
        refine Or.inl ⟨((lsS gp bc (i + 1)).1, nI (lsS gp bc (i + 1)).2, nI (i + 1), MH), ?_, ⟨i + 1, by omega, rfl, rfl, rfl, fun o d1 d3 d4 => ?_⟩, ?_⟩
        · unfold b_X12_listen_25
          simp only [Lt_eq]
          rw [if_neg (show ¬ (100 : Int32) ≤ nI i from nI_ge (b := 100) (by omega) (by omega)), a1, Bd_some, b1, Bd_some, hmost, Bd_some, nI_1]
          show _ = some (Sum.inl ((if gp i < (lsS gp bc i).2 then (nI i, gp i) else lsS gp bc i).1, nI (if gp i < (lsS gp bc i).2 then (nI i, gp i) else lsS gp bc i).2, _, _))
          by_cases e : gp i < (lsS gp bc i).2
          · rw [if_neg (nI_ge e (by omega)), if_neg (nI_ge e (by omega)), if_pos e]
          · rw [if_pos (nI_le (show (lsS gp bc i).2 ≤ gp i by omega) (by omega)), if_pos (nI_le (show (lsS gp bc i).2 ≤ gp i by omega) (by omega)), if_neg e]
        · show MH o = M o
          rw [b3 o d3 d4, a3 o d3, hF o d1 d3 d4]
        · show 100 - (nI (i + 1)).toNatClampNeg < 100 - (nI i).toNatClampNeg
          rw [nI_clamp (by omega), nI_clamp (by omega)]
          omega) 100000 ((-1 : Int32), nI bc, (0 : Int32), M2) ⟨0, by omega, rfl, rfl, rfl, fun o d1 d3 _ => l3 o d1 d3⟩ (by show 100 - _ < _; omega)
    obtain ⟨⟨v, MM⟩, e1, e2, e3⟩ := keyM
    simp only at e2 e3
    rw [e2] at e1
    refine ⟨_, MC, MM, rfl, ?_, Inv_tr (fun o j q => ?_) hI⟩
    · rw [isTower_1 (n := n) (by rw [k3 128 (by omega)]; exact m16) hn' n1, if_neg one_ne, l1, Bd_some]
      dsimp only
      rw [bitsM x hx64, Bd_some, hbc, e1, Bd_some]
    · unfold Scrt at q
      rw [e3 o (by omega) (by omega) (by omega)]
