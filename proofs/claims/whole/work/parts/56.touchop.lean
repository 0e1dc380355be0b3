theorem pIx_1b {n i : Nat} (h : i ≤ n) (hn : n ≤ 1000) : (pIx n i + 1).toNatClampNeg = n - i := by
  unfold pIx
  by_cases h2 : i < n
  · rw [if_pos h2, nI_1, nI_clamp (by omega)]; omega
  · rw [if_neg h2, show n - i = 0 by omega]; decide
def Qtc (n k C : Nat) (Me : Nat → Nat) (L i X : Nat) : Bool := tchB n k C Me L X && decide (2 ^ L - i ≤ X)
theorem touchM_spec {n k ns C L : Nat} {Me W S E : Nat → Nat} {M : Mm} (hV : TV n k ns C Me W S) (hn : 0 < n) (hM : MT n k ns C Me W S M) (hE : EQ n k ns E) (hA : AR E (M 136)) (hL : L ≤ 8) : ∃ M', Lp (b_X12_touch_44 128 (nI L)) 100000 ((0 : Int32), (-1 : Int32), (sl (1 : Int32) (nI L)) - (1 : Int32), M) = some (nI (cntL (tchB n k C Me L) (2 ^ L)), lI (fstN (tchB n k C Me L) (2 ^ L)), M') ∧ ∀ o j, ¬ (o = 137 ∨ o = 144 ∨ (o = 128 ∧ j = 36)) → M' o j = M o j := by
  have h8 := p8_le hL
  have hpos : 0 < 2 ^ L := Nat.pow_pos (by omega)
  have h0 : (sl (1 : Int32) (nI L)) - (1 : Int32) = pIx (2 ^ L) 0 := by
    rw [sl1 (by omega)]; exact pIx_0 hpos
  have key := Lp_inv (f := b_X12_touch_44 128 (nI L)) (fun s => ∃ i, i ≤ 2 ^ L ∧ s.1 = nI (cntL (Qtc n k C Me L i) (2 ^ L)) ∧ s.2.1 = lI (fstN (Qtc n k C Me L i) (2 ^ L)) ∧ s.2.2.1 = pIx (2 ^ L) i ∧ ∀ o j, ¬ (o = 137 ∨ o = 144 ∨ (o = 128 ∧ j = 36)) → s.2.2.2 o j = M o j) (fun s => (s.2.2.1 + 1).toNatClampNeg) (fun r => r.1 = nI (cntL (tchB n k C Me L) (2 ^ L)) ∧ r.2.1 = lI (fstN (tchB n k C Me L) (2 ^ L)) ∧ ∀ o j, ¬ (o = 137 ∨ o = 144 ∨ (o = 128 ∧ j = 36)) → r.2.2 o j = M o j) (fun s hs => by
    obtain ⟨i, hi, h1, h2, h3, hF⟩ := hs
    obtain ⟨v, f, x, Mi⟩ := s
    simp only at h1 h2 h3 hF
    subst h1
    subst h2
    subst h3
    by_cases hin : i = 2 ^ L
    · have hq : ∀ X, X < 2 ^ L → Qtc n k C Me L i X = tchB n k C Me L X := fun X _ => by
        unfold Qtc
        rw [decide_eq_true (by omega), Bool.and_true]
      refine Or.inr ⟨(nI (cntL (Qtc n k C Me L i) (2 ^ L)), lI (fstN (Qtc n k C Me L i) (2 ^ L)), Mi), ?_, ?_, ?_, hF⟩
      · unfold b_X12_touch_44
        rw [if_pos (show pIx (2 ^ L) i < 0 by unfold pIx; rw [if_neg (by omega)]; decide)]
      · show nI (cntL (Qtc n k C Me L i) (2 ^ L)) = _
        rw [cntL_congr _ hq]
      · show lI (fstN (Qtc n k C Me L i) (2 ^ L)) = _
        rw [fstN_congr _ hq]
    · have hil : i < 2 ^ L := by omega
      have hp : pIx (2 ^ L) i = nI (2 ^ L - 1 - i) := by unfold pIx; rw [if_pos hil]
      have hMi : MT n k ns C Me W S Mi := MT_p (fun o j q => hF o j (by omega)) hM
      obtain ⟨M1, g1, g2⟩ := isTouch_spec (L := L) (A := 2 ^ L - 1 - i) hV hn hMi hE (AR_c (fun j => hF 136 j (by omega)) hA) hL (by omega)
      have hf1 : ∀ o j, ¬ (o = 137 ∨ o = 144 ∨ (o = 128 ∧ j = 36)) → M1 o j = M o j := fun o j q => by rw [g2 o j q, hF o j q]
      have hmu : (pIx (2 ^ L) (i + 1) + 1).toNatClampNeg < (pIx (2 ^ L) i + 1).toNatClampNeg := by
        rw [pIx_1b (by omega) (by omega), pIx_1b hi (by omega)]
        omega
      by_cases ht : tchB n k C Me L (2 ^ L - 1 - i) = true
      · rw [if_pos ht] at g1
        have hqA : ¬ Qtc n k C Me L i (2 ^ L - 1 - i) = true := by
          unfold Qtc
          rw [decide_eq_false (by omega), Bool.and_false]; simp
        have hq : ∀ X, X < 2 ^ L → (Qtc n k C Me L i X || (X == 2 ^ L - 1 - i)) = Qtc n k C Me L (i + 1) X := fun X hX => by
          unfold Qtc
          by_cases c : X = 2 ^ L - 1 - i
          · rw [c, ht, decide_eq_true (show 2 ^ L - (i + 1) ≤ 2 ^ L - 1 - i by omega)]; simp
          · rw [show (X == 2 ^ L - 1 - i) = false by simp; exact c, Bool.or_false]
            by_cases c2 : 2 ^ L - i ≤ X
            · rw [decide_eq_true c2, decide_eq_true (show 2 ^ L - (i + 1) ≤ X by omega)]
            · rw [decide_eq_false c2, decide_eq_false (show ¬ 2 ^ L - (i + 1) ≤ X by omega)]
        have hcnt : cntL (Qtc n k C Me L (i + 1)) (2 ^ L) = cntL (Qtc n k C Me L i) (2 ^ L) + 1 := by
          rw [← cntL_congr _ hq, cntL_add hqA _ (by omega)]
        have hfst : fstN (Qtc n k C Me L (i + 1)) (2 ^ L) = some (2 ^ L - 1 - i) := by
          refine fstN_some _ ⟨by omega, ?_, fun X hX z => ?_⟩
          · unfold Qtc
            rw [ht, decide_eq_true (show 2 ^ L - (i + 1) ≤ 2 ^ L - 1 - i by omega)]; rfl
          · unfold Qtc at z
            rw [decide_eq_false (show ¬ 2 ^ L - (i + 1) ≤ X by omega), Bool.and_false] at z
            exact absurd z (by simp)
        refine Or.inl ⟨(nI (cntL (Qtc n k C Me L (i + 1)) (2 ^ L)), lI (fstN (Qtc n k C Me L (i + 1)) (2 ^ L)), pIx (2 ^ L) (i + 1), M1), ?_, ⟨i + 1, by omega, rfl, rfl, rfl, hf1⟩, hmu⟩
        unfold b_X12_touch_44
        simp only [Lt_eq]
        rw [if_neg (show ¬ pIx (2 ^ L) i < 0 by rw [hp]; exact nI_lt0 (by omega)), pIx_s hil, hp, g1, Bd_some, if_neg one_ne, if_neg one_ne, hcnt, hfst, nI_1]
        rfl
      · rw [if_neg ht] at g1
        have hq : ∀ X, X < 2 ^ L → Qtc n k C Me L i X = Qtc n k C Me L (i + 1) X := fun X hX => by
          unfold Qtc
          by_cases c : X = 2 ^ L - 1 - i
          · rw [c]
            rw [show tchB n k C Me L (2 ^ L - 1 - i) = false by simpa using ht]; simp
          · by_cases c2 : 2 ^ L - i ≤ X
            · rw [decide_eq_true c2, decide_eq_true (show 2 ^ L - (i + 1) ≤ X by omega)]
            · rw [decide_eq_false c2, decide_eq_false (show ¬ 2 ^ L - (i + 1) ≤ X by omega)]
        refine Or.inl ⟨(nI (cntL (Qtc n k C Me L (i + 1)) (2 ^ L)), lI (fstN (Qtc n k C Me L (i + 1)) (2 ^ L)), pIx (2 ^ L) (i + 1), M1), ?_, ⟨i + 1, by omega, rfl, rfl, rfl, hf1⟩, hmu⟩
        unfold b_X12_touch_44
        simp only [Lt_eq]
        rw [if_neg (show ¬ pIx (2 ^ L) i < 0 by rw [hp]; exact nI_lt0 (by omega)), pIx_s hil, hp, g1, Bd_some, if_pos rfl, if_pos rfl, ← cntL_congr _ hq, ← fstN_congr _ hq, show ∀ z : Nat, nI z + (0 : Int32) = nI (z + 0) from fun z => nI_add z 0, Nat.add_zero]) 100000 ((0 : Int32), (-1 : Int32), pIx (2 ^ L) 0, M) ⟨0, by omega, by
        have : cntL (Qtc n k C Me L 0) (2 ^ L) = 0 := (cntL_0 _).mpr (fun X hX => by unfold Qtc; rw [decide_eq_false (by omega), Bool.and_false]; simp)
        rw [this]; rfl, by
        have : fstN (Qtc n k C Me L 0) (2 ^ L) = none := (fstN_none _).mpr (fun X hX => by unfold Qtc; rw [decide_eq_false (by omega), Bool.and_false]; simp)
        rw [this]; rfl, rfl, fun _ _ _ => rfl⟩ (by
      show (pIx (2 ^ L) 0 + 1).toNatClampNeg < 100000
      rw [pIx_1b (by omega) (by omega)]
      omega)
  obtain ⟨⟨v, f, M'⟩, k1, k2, k3, k4⟩ := key
  simp only at k2 k3 k4
  subst k2
  subst k3
  rw [h0]
  exact ⟨M', k1, k4⟩
theorem op_touch {M : Mm} (x y : Int32) (h : InvX M) : ∃ r M1 M2, f_X11_touch 0 x y M = some (r, M1) ∧ f_X12_touch 128 x y M1 = some (r, M2) ∧ InvX M2 := by
  obtain ⟨t, n, k, ns, C, Me, W, S, E, hI⟩ := id h
  obtain ⟨ht, h00, hkd, t0, t1, t2⟩ := inv_t hI
  obtain ⟨m16, m17, m18, m19⟩ := inv_m hI
  obtain ⟨n1, n2, n3, n4, n5⟩ := inv_n hI
  obtain ⟨⟨hV, z0, z1, hT, hM⟩, ⟨hE, hC, hA⟩, -⟩ := id hI
  unfold f_X11_touch f_X12_touch
  simp only [h00, Gd_t hkd, Lt_eq]
  rcases rng_cases 1 8 (by omega) (by omega) x with ⟨L, l1, l2, rfl⟩ | hx
  · have hin : f_X12_in (nI L) (1 : Int32) (8 : Int32) = 1 := in_1 (lo := 1) (hi := 8) l1 l2 (by omega)
    rw [if_neg (show ¬ nI L < (1 : Int32) from nI_nlt (b := 1) l1 (by omega)), if_neg (show ¬ (8 : Int32) < nI L from nI_nlt (a := 8) l2 (by omega))]
    rcases rng_cases 0 1 (by omega) (by omega) y with ⟨w, -, hw, rfl⟩ | hy
    · have hin2 : f_X12_in (nI w) (0 : Int32) (1 : Int32) = 1 := in_1 (lo := 0) (hi := 1) (by omega) hw (by omega)
      rw [if_neg (nI_lt0 (by omega)), if_pos (show nI w ≤ (1 : Int32) from nI_le (b := 1) hw (by omega))]
      by_cases hn : n = 0
      · subst hn
        rw [stands_0 t0, if_pos rfl]
        exact ⟨_, _, _, rfl, by rw [hin, if_neg one_ne, hin2, if_neg one_ne, isTower_0 m16, if_pos rfl], h⟩
      · have hn' : 0 < n := by omega
        rw [stands_1 t0 hn' n1, if_neg one_ne]
        obtain ⟨M1, g1, ⟨g2, g3⟩, g4⟩ := search_spec hV hn' hT l2 l1
        obtain ⟨M2, r1, r2⟩ := touchM_spec (M := M1) (L := L) hV hn' (MT_c (fun o ho => g4 o (by omega) (by omega)) hM) hE (AR_c (fun j => by rw [g4 136 (by omega) (by omega)]) hA) l2
        rw [g1, Bd_some, g2, g3]
        have hinv : InvX M2 := Inv_tr (fun o j q => by
          unfold Scrt at q
          rw [r2 o j (by omega), g4 o (by omega) (by omega)]) hI
        have htw : f_X12_isTower 128 M1 = 1 := isTower_1 (n := n) (by rw [g4 128 (by omega) (by omega)]; exact m16) hn' n1
        rcases (show w = 0 ∨ w = 1 by omega) with rfl | rfl
        · rw [if_pos (show nI 0 = 0 from rfl)]
          exact ⟨_, _, M2, rfl, by rw [hin, if_neg one_ne, hin2, if_neg one_ne, htw, if_neg one_ne, r1, Bd_some, if_pos (show nI 0 = 0 from rfl)], hinv⟩
        · rw [if_neg (show ¬ nI 1 = 0 by decide)]
          exact ⟨_, _, M2, rfl, by rw [hin, if_neg one_ne, hin2, if_neg one_ne, htw, if_neg one_ne, r1, Bd_some, if_neg (show ¬ nI 1 = 0 by decide)], hinv⟩
    · have hin2 : f_X12_in y (0 : Int32) (1 : Int32) = 0 := in_0 (lo := 0) (hi := 1) hy
      rcases hy with q | ⟨q1, q2, q3⟩
      · rw [if_pos (show y < 0 from q)]
        exact ⟨_, _, _, rfl, by rw [hin, if_neg one_ne, hin2, if_pos rfl], h⟩
      · rw [if_neg (show ¬ y < 0 from q1), if_neg (show ¬ y ≤ (1 : Int32) from q3)]
        exact ⟨_, _, _, rfl, by rw [hin, if_neg one_ne, hin2, if_pos rfl], h⟩
  · have hin : f_X12_in x (1 : Int32) (8 : Int32) = 0 := in_0 (lo := 1) (hi := 8) hx
    rcases hx with q | ⟨q1, q2, q3⟩
    · rw [if_pos (show x < (1 : Int32) from q)]
      exact ⟨_, _, _, rfl, by rw [hin, if_pos rfl], h⟩
    · rw [if_neg (show ¬ x < (1 : Int32) from q1), if_pos (show (8 : Int32) < x from q2)]
      exact ⟨_, _, _, rfl, by rw [hin, if_pos rfl], h⟩
