theorem op_trueFor {M : Mm} (h : InvX M) : ∃ r M1 M2, f_X11_trueFor 0 M = some (r, M1) ∧ f_X12_trueFor 128 M1 = some (r, M2) ∧ InvX M2 := by
  obtain ⟨t, n, k, ns, C, Me, W, S, E, hI⟩ := id h
  obtain ⟨ht, h00, hkd, t0, t1, t2⟩ := inv_t hI
  obtain ⟨m16, m17, m18, m19⟩ := inv_m hI
  obtain ⟨n1, n2, n3, n4, n5⟩ := inv_n hI
  obtain ⟨⟨hV, z0, z1, hT, hM⟩, ⟨hE, hC, hA⟩, -⟩ := id hI
  unfold f_X11_trueFor f_X12_trueFor
  simp only [h00, Gd_t hkd]
  by_cases hn : n = 0
  · subst hn
    rw [stands_0 t0, if_pos rfl]
    exact ⟨_, _, _, rfl, by rw [isTower_0 m16, if_pos rfl], h⟩
  · have hn' : 0 < n := by omega
    have he0 := hE.2.1
    rw [stands_1 t0 hn' n1, if_neg one_ne]
    have hEV : ∀ i, i < 800 → EV n k ns (rgI n k ns C Me W S E i) := fun i hi => EV_rgI hV hn' hE.1 i (by omega)
    have hprm : ∀ i, i < 800 → prm n (fun p => rgI n k ns C Me W S E i (5 + p)) := fun i hi => ⟨(hEV i hi).2.2.2.2.2.1, (hEV i hi).2.2.2.2.2.2.1⟩
    generalize hcC : (fun i => enc n (fun p => rgI n k ns C Me W S E i (5 + p))) = cC
    generalize hcR : (fun i => figs n (fun p => rgI n k ns C Me W S E i (5 + p))) = cR
    have hC1 : ∀ i, enc n (fun p => rgI n k ns C Me W S E i (5 + p)) = cC i := fun i => by rw [← hcC]
    have hR1 : ∀ i, figs n (fun p => rgI n k ns C Me W S E i (5 + p)) = cR i := fun i => by rw [← hcR]
    have hiff : ∀ i j, i < 800 → j < 800 → (cC i % 32768 = cC j % 32768 ↔ cR i = cR j) := fun i j hi hj => by
      rw [← hC1, ← hC1, ← hR1, ← hR1]; exact code_iff n1 (hprm i hi) (hprm j hj)
    have hRb : ∀ i, i < 800 → cR i < 2 ^ 31 := fun i hi => by
      rw [← hR1]
      have := figs_b n1 (prm9 n1 (hprm i hi))
      omega
    obtain ⟨i0, z1', z2', z3'⟩ : ∃ i0, i0 < 720 ∧ ¬ (∀ q, q < i0 + 1 → ¬ cR q = cR (i0 + 1)) ∧ ∀ i, i < i0 → ∀ q, q < i + 1 → ¬ cR q = cR (i + 1) := by
      rcases firstW (fun i => ∀ q, q < i + 1 → ¬ cR q = cR (i + 1)) (fun i => Classical.em _) 720 with hall | hex
      · obtain ⟨i, j, hij, hj, e⟩ := pig720 n1 (fun i hi => hprm i (by omega))
        rw [hR1, hR1] at e
        obtain ⟨j', rfl⟩ : ∃ j', j = j' + 1 := ⟨j - 1, by omega⟩
        exact absurd e (hall j' (by omega) i (by omega))
      · exact hex
    have z2'' : ∃ q, q < i0 + 1 ∧ cR q = cR (i0 + 1) := by
      apply Classical.byContradiction
      intro hno
      exact z2' (fun q hq e => hno ⟨q, hq, e⟩)
    obtain ⟨M1, g1, g2, g3⟩ := wt_copy hC hE.1
    obtain ⟨M2, r1, r2, r3⟩ := seen_clear (M := M1)
    have hs0 : SS (SPc cC 0) M2 := SS_iff (fun c _ => ⟨fun q => q.elim, fun ⟨i, hi, _⟩ => absurd hi (by omega)⟩) r2
    obtain ⟨M3, y1, y2, y3⟩ := (addC hs0).2 (fun i hi => absurd hi (by omega))
    have hrow0 : M2 115 0 = nI (cC 0) := by rw [r3 115 (by omega), g2.1, ← hC1]; rfl
    rw [g1, Bd_some, r1, Bd_some, hrow0, y1, Bd_some]
    have y3' : ∀ o, o ≠ 110 → o ≠ 115 → M3 o = M o := fun o d1 d2 => by rw [y3 o d1, r3 o d1, g3 o d2]
    have keyC := Lp_inv (f := b_X11_trueFor_51 0) (fun s => ∃ i, i ≤ i0 ∧ s.1 = nI i ∧ WT n k (rgI n k ns C Me W S E i) (s.2 115) ∧ SS (SPc cC (i + 1)) s.2 ∧ ∀ o, o ≠ 110 → o ≠ 115 → s.2 o = M o) (fun s => i0 - s.1.toNatClampNeg) (fun r => ∃ M', r = .inl (nI i0, M') ∧ ∀ o, o ≠ 110 → o ≠ 115 → M' o = M o) (fun s hs => by
      obtain ⟨i, hi, hx, hW, hS, hF⟩ := hs
      obtain ⟨x, Mi⟩ := s
      simp only at hx hW hS hF
      subst hx
      have z : (Mi 0 0).toNatClampNeg = t := by rw [hF 0 (by omega) (by omega)]; exact h00
      obtain ⟨Ms, q1, q2, q3⟩ := wt_step (TW_c hV (fun o ho => hF o (by omega) (by omega)) hT) hV hn' (hEV i (by omega)) hW
      have q2' : WT n k (rgI n k ns C Me W S E (i + 1)) (Ms 115) := q2
      have hS' : SS (SPc cC (i + 1)) Ms := SS_c (q3 110 (by omega)) hS
      have hrow : Ms 115 0 = nI (cC (i + 1)) := by rw [q2'.1, ← hC1]
      have hbody : b_X11_trueFor_51 0 (nI i, Mi) = Bd (f_X6_add 109 (nI (cC (i + 1))) Ms) (fun r9 => (if r9.1 = 0 then some (.inr (.inl (nI i, r9.2))) else some (.inl (nI (i + 1), r9.2)))) := by
        unfold b_X11_trueFor_51
        simp only [Lt_eq, z, Gd_t hkd]
        rw [if_neg (show ¬ (720 : Int32) ≤ nI i from nI_ge (b := 720) (by omega) (by omega)), q1, Bd_some, hrow, nI_1]
      obtain ⟨a1, a2⟩ := addC hS'
      by_cases hin : i = i0
      · subst hin
        obtain ⟨q, hq, e⟩ := z2''
        obtain ⟨b1, b2⟩ := a1 ⟨q, hq, (hiff q (i + 1) (by omega) (by omega)).mpr e⟩
        refine Or.inr ⟨.inl (nI i, Ms), ?_, Ms, rfl, fun o d1 d2 => by rw [q3 o d2, hF o d1 d2]⟩
        rw [hbody, b1, Bd_some, if_pos rfl]
      · obtain ⟨Mn, b1, b2, b3⟩ := a2 (fun q hq e => z3' i (by omega) q hq ((hiff q (i + 1) (by omega) (by omega)).mp e))
        refine Or.inl ⟨(nI (i + 1), Mn), ?_, ⟨i + 1, by omega, rfl, ?_, b2, fun o d1 d2 => ?_⟩, ?_⟩
        · rw [hbody, b1, Bd_some, if_neg one_ne]
        · show WT n k _ (Mn 115)
          rw [b3 115 (by omega)]; exact q2'
        · show Mn o = M o
          rw [b3 o d1, q3 o d2, hF o d1 d2]
        · show i0 - (nI (i + 1)).toNatClampNeg < i0 - (nI i).toNatClampNeg
          rw [nI_clamp (by omega), nI_clamp (by omega)]
          omega) 100000 ((0 : Int32), M3) ⟨0, by omega, rfl, by show WT n k E (M3 115); rw [y3 115 (by omega), r3 115 (by omega)]; exact g2, y2, y3'⟩ (by show i0 - _ < _; omega)
    obtain ⟨r, k1, MC, rfl, k3⟩ := keyC
    dsimp only
    rw [k1, BdS_inl]
    obtain ⟨Mb, b1, b2, b3⟩ := begin_spec (M := MC) (AR_c (fun j => by rw [k3 136 (by omega) (by omega)]) hA)
    have b3' : ∀ o, o ≠ 110 → o ≠ 115 → o ≠ 137 → Mb o = M o := fun o d1 d2 d3 => (b3 o d3).trans (k3 o d1 d2)
    have hp0 : MPc cR 0 (st2 Mb 128 36 (0 : Int32)) := ⟨0, fun _ => 0, by omega, ⟨by rw [s2_eq]; rfl, fun i hi => absurd hi (by omega)⟩, fun a => ⟨fun ⟨j, hj, _⟩ => absurd hj (by omega), fun ⟨j, hj, _⟩ => absurd hj (by omega)⟩⟩
    have f3 : ∀ o j, ¬ (o = 110 ∨ o = 115 ∨ o = 137 ∨ (o = 128 ∧ j = 36)) → st2 Mb 128 36 (0 : Int32) o j = M o j := fun o j q => by rw [s2_at, if_neg (by omega), b3' o (by omega) (by omega) (by omega)]
    have hA3 : AR E (st2 Mb 128 36 (0 : Int32) 137) := by rw [s2_ne (by omega)]; exact b2
    obtain ⟨M5, p1, p2, p3⟩ := (addM (by omega) (hRb 0 (by omega)) hp0).2 (fun i hi => absurd hi (by omega))
    have f5 : ∀ o j, ¬ (o = 110 ∨ o = 115 ∨ o = 137 ∨ o = 144 ∨ (o = 128 ∧ j = 36)) → M5 o j = M o j := fun o j q => by rw [p3 o j (by omega), f3 o j (by omega)]
    have hA5 : AR E (M5 137) := AR_c (fun j => p3 137 j (by omega)) hA3
    have keyM := Lp_inv (f := b_X12_trueFor_34 128) (fun s => (∃ i, i ≤ i0 ∧ s.1 = nI i ∧ s.2.1 = 1 ∧ AR (rgI n k ns C Me W S E i) (s.2.2 137) ∧ MPc cR (i + 1) s.2.2 ∧ ∀ o j, ¬ (o = 110 ∨ o = 115 ∨ o = 137 ∨ o = 144 ∨ (o = 128 ∧ j = 36)) → s.2.2 o j = M o j) ∨ (s.1 = nI i0 ∧ s.2.1 = 0 ∧ ∀ o j, ¬ (o = 110 ∨ o = 115 ∨ o = 137 ∨ o = 144 ∨ (o = 128 ∧ j = 36)) → s.2.2 o j = M o j)) (fun s => if s.2.1 = 0 then 0 else (720 - s.1.toNatClampNeg) + 1) (fun r => r.1 = nI i0 ∧ ∀ o j, ¬ (o = 110 ∨ o = 115 ∨ o = 137 ∨ o = 144 ∨ (o = 128 ∧ j = 36)) → r.2 o j = M o j) (fun s hs => by
      obtain ⟨v, x, Mi⟩ := s
      rcases hs with ⟨i, hi, hv, hx, hW, hP, hF⟩ | ⟨hv, hx, hF⟩
      · simp only at hv hx hW hP hF
        subst hx
        subst hv
        have hMi : MT n k ns C Me W S Mi := MT_p (fun o j q => hF o j (by omega)) hM
        obtain ⟨Ms, q1, q2, q3⟩ := goOn_spec (m := 1) hMi hV hn' (hEV i (by omega)) (by rw [rgI_0]; omega) hW
        have q2' : AR (rgI n k ns C Me W S E (i + 1)) (Ms 137) := q2
        have fs : ∀ o j, ¬ (o = 110 ∨ o = 115 ∨ o = 137 ∨ o = 144 ∨ (o = 128 ∧ j = 36)) → Ms o j = M o j := fun o j q => by rw [q3 o (by omega), hF o j q]
        have hP' : MPc cR (i + 1) Ms := by
          obtain ⟨mm, v, e1, ⟨e2, e3⟩, e4⟩ := hP
          exact ⟨mm, v, e1, ⟨by rw [q3 128 (by omega)]; exact e2, fun j hj => by rw [q3 144 (by omega)]; exact e3 j hj⟩, e4⟩
        have hbody : b_X12_trueFor_34 128 (nI i, (1 : Int32), Mi) = Bd (f_X12_isNew 128 (nI (cR (i + 1))) Ms) (fun r9 => some (.inl (nI i + (if r9.1 = 0 then (0 : Int32) else (1 : Int32)), r9.1, r9.2))) := by
          unfold b_X12_trueFor_34
          simp only [Lt_eq]
          rw [if_neg one_ne, show f_X12_goOn 128 (1 : Int32) Mi = some Ms from q1, Bd_some, figOf_spec (by rw [fs 128 16 (by omega)]; exact m16) n1 (by decide) (fun p hp => q2' (5 + p) (by omega)), Bd_some, hR1]
        obtain ⟨a1, a2⟩ := addM (by omega) (hRb (i + 1) (by omega)) hP'
        by_cases hin : i = i0
        · subst hin
          obtain ⟨b1, b2⟩ := a1 z2''
          refine Or.inl ⟨(nI i, (0 : Int32), Ms), ?_, Or.inr ⟨rfl, rfl, fs⟩, ?_⟩
          · rw [hbody, b1, Bd_some]
            show some (Sum.inl (nI i + nI 0, (0 : Int32), Ms)) = _
            rw [nI_add, Nat.add_zero]
          · show (if (0 : Int32) = 0 then 0 else _) < (if (1 : Int32) = 0 then 0 else _)
            rw [if_pos rfl, if_neg one_ne]
            omega
        · obtain ⟨Mn, b1, b2, b3⟩ := a2 (fun q hq e => z3' i (by omega) q hq e)
          refine Or.inl ⟨(nI (i + 1), (1 : Int32), Mn), ?_, Or.inl ⟨i + 1, by omega, rfl, rfl, AR_c (fun j => b3 137 j (by omega)) q2', b2, fun o j q => ?_⟩, ?_⟩
          · rw [hbody, b1, Bd_some]
            show some (Sum.inl (nI i + 1, (1 : Int32), Mn)) = _
            rw [nI_1]
          · show Mn o j = M o j
            rw [b3 o j (by omega), fs o j q]
          · show (if (1 : Int32) = 0 then 0 else 720 - (nI (i + 1)).toNatClampNeg + 1) < (if (1 : Int32) = 0 then 0 else 720 - (nI i).toNatClampNeg + 1)
            rw [if_neg one_ne, if_neg one_ne, nI_clamp (by omega), nI_clamp (by omega)]
            omega
      · simp only at hv hx hF
        subst hx
        subst hv
        exact Or.inr ⟨(nI i0, Mi), by unfold b_X12_trueFor_34; rw [if_pos rfl], rfl, hF⟩) 100000 ((0 : Int32), (1 : Int32), M5) (Or.inl ⟨0, by omega, rfl, rfl, hA5, p2, f5⟩) (by
        show (if (1 : Int32) = 0 then 0 else 720 - _ + 1) < _
        rw [if_neg one_ne]
        omega)
    obtain ⟨⟨v, MM⟩, w1, w2, w3⟩ := keyM
    simp only at w2 w3
    subst w2
    refine ⟨_, MC, MM, rfl, ?_, Inv_tr (fun o j q => ?_) hI⟩
    · rw [isTower_1 (n := n) (by rw [k3 128 (by omega) (by omega)]; exact m16) hn' n1, if_neg one_ne, b1, Bd_some, Lt_eq, figOf_spec (by rw [f3 128 16 (by omega)]; exact m16) n1 (by decide) (fun p hp => hA3 (5 + p) (by omega)), Bd_some, show figs n (fun p => E (5 + p)) = cR 0 from hR1 0, p1, Bd_some]
      dsimp only
      rw [w1, Bd_some]
    · unfold Scrt at q
      rw [w3 o j (by omega)]
