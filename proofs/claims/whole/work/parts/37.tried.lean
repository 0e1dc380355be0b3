/-! what is tried: the class's walk beside the reference's copy of the evening -/
def WT (n k : Nat) (X : Nat → Nat) (r : Nat → Int32) : Prop := WKr n (fun p => X (5 + p)) (X 1 % k) (X 2) r
theorem ringE_row {n k ns C p : Nat} {Me W S E : Nat → Nat} (hn : n ≤ 6) (hp : p < n) : ringE n k ns C Me W S E (5 + p) = E (5 + pm (if E 2 = 1 then C else Me (E 1 % k)) p) := by
  rw [ringE_n4 (by omega), tirE_lo (by omega), E1f_row hp]
theorem ringE_2 {n k ns C : Nat} {Me W S E : Nat → Nat} : ringE n k ns C Me W S E 2 = 0 := by
  rw [ringE_n4 (by omega), tirE_lo (by omega)]
  unfold E1f
  rw [up1_o (by omega), up1_o (by omega), up1_s]
theorem ringE_rope {n k ns C r : Nat} {Me W S E : Nat → Nat} (hn : n ≤ 6) (hr : r < 6) : ringE n k ns C Me W S E (11 + r) = E (11 + r) := by
  rw [ringE_n4 (by omega), tirE_lo (by omega), E1f_hi hn (by omega)]
theorem wt_copy {n k ns : Nat} {E : Nat → Nat} {M : Mm} (hC : CE 37 n k E M) (hE : EV n k ns E) : ∃ M', f_X10_copyFrom 115 (37 + 1) M = some M' ∧ WT n k E (M' 115) ∧ ∀ o, o ≠ 115 → M' o = M o := by
  obtain ⟨-, -, -, ⟨w0, w1, w2⟩, -⟩ := hC
  have e2 := hE.2.2.1
  unfold f_X10_copyFrom
  simp only [Lt_eq]
  simp only [s2_ne (show 37 + 1 ≠ 115 by omega)]
  rw [w0, w1, w2, Gd_t (zb_nI e2)]
  exact ⟨_, rfl, ⟨by rw [s2_nk (by omega), s2_nk (by omega), s2_eq], by rw [s2_nk (by omega), s2_eq], by rw [s2_eq]⟩, fun o ho => by rw [s2_ne ho, s2_ne ho, s2_ne ho]⟩
theorem wt_step {t n k ns C : Nat} {Me W S X : Nat → Nat} {M : Mm} (hT : TW t n k ns C Me W S M) (hV : TV n k ns C Me W S) (hn : 0 < n) (hX : EV n k ns X) (hW : WT n k X (M 115)) : ∃ M', f_X10_step 115 t M = some M' ∧ WT n k (ringE n k ns C Me W S X) (M' 115) ∧ ∀ o, o ≠ 115 → M' o = M o := by
  have hb := hV.1
  obtain ⟨M', g1, ⟨g2, g3, g4⟩, g5⟩ := step_spec hT hV hn hW (Nat.mod_lt _ (by omega)) hX.2.2.1 (fun p hp => by have := hX.2.2.2.2.2.1 p hp; omega) (by omega)
  refine ⟨M', g1, ⟨?_, ?_, ?_⟩, g5⟩
  · rw [g2, enc_congr n _ (fun p => ringE n k ns C Me W S X (5 + p)) (fun p hp => (ringE_row (by omega) hp).symm)]
  · rw [g3, nxc_mod (by omega), ringE_1]
  · rw [g4, ringE_2]
theorem begin_spec {E : Nat → Nat} {M : Mm} (hA : AR E (M 136)) : ∃ M', f_X12_begin 128 M = some M' ∧ AR E (M' 137) ∧ ∀ o, o ≠ 137 → M' o = M o := by
  obtain ⟨M1, g1, g2, g3, g4⟩ := bring_spec (M := M) (o0 := 136) (o2 := 137) (a := 0) (b := 0) (n := 23) (by rw [kl_137]; omega) (by rw [kl_138]; omega) (by rw [kl_137]; omega) (by rw [kl_138]; omega) (Or.inl (by omega))
  unfold f_X12_begin
  rw [show f_X12_bring 136 (0 : Int32) 137 (0 : Int32) (23 : Int32) M = some M1 from g1, Bd_some]
  refine ⟨M1, rfl, fun j hj => ?_, g4⟩
  have := g2 j hj
  rw [show 0 + j = j by omega] at this
  rw [this, hA j hj]
theorem stepTrial_spec {t n k ns C m : Nat} {Me W S E : Nat → Nat} {M : Mm} (h0 : M 0 0 = nI t) (hT : TW t n k ns C Me W S M) (hV : TV n k ns C Me W S) (hn : 0 < n) (hE : EV n k ns E) (hm : E 0 + m ≤ 12000) (hW : WT n k E (M 115)) : ∃ M', f_X11_stepTrial 0 (nI m) M = some (nI (enc n (fun p => rgI n k ns C Me W S E m (5 + p))), M') ∧ WT n k (rgI n k ns C Me W S E m) (M' 115) ∧ ∀ o, o ≠ 115 → M' o = M o := by
  have ht := hT.1
  have key := Lp_inv (f := b_X11_stepTrial_2 0 (nI m)) (fun s => ∃ i, i ≤ m ∧ s.1 = nI i ∧ WT n k (rgI n k ns C Me W S E i) (s.2 115) ∧ ∀ o, o ≠ 115 → s.2 o = M o) (fun s => m - s.1.toNatClampNeg) (fun t => WT n k (rgI n k ns C Me W S E m) (t 115) ∧ ∀ o, o ≠ 115 → t o = M o) ?_ 100000 ((0 : Int32), M) ⟨0, by omega, rfl, hW, fun _ _ => rfl⟩ (by show m - _ < _; omega)
  · obtain ⟨M1, g1, g2, g3⟩ := key
    unfold f_X11_stepTrial
    rw [g1, Bd_some, g2.1]
    exact ⟨M1, rfl, g2, g3⟩
  · rintro ⟨x, Mi⟩ ⟨i, hi, hx, hWi, hF⟩
    simp only at hx hWi hF
    subst hx
    have z : (Mi 0 0).toNatClampNeg = t := by rw [hF 0 (by omega)]; exact tw_ref h0 ht
    unfold b_X11_stepTrial_2
    simp only [Lt_eq, z, Gd_t (kd_tw ht)]
    by_cases hin : i = m
    · subst hin
      exact Or.inr ⟨_, by rw [if_pos (nI_le (Nat.le_refl _) (by omega))], hWi, hF⟩
    · obtain ⟨M1, g1, g2, g3⟩ := wt_step (TW_c hV (fun o ho => hF o (by omega)) hT) hV hn (EV_rgI hV hn hE i (by omega)) hWi
      refine Or.inl ⟨(nI (i + 1), M1), by rw [if_neg (nI_ge (show i < m by omega) (by omega)), g1, Bd_some, nI_1], ⟨i + 1, by omega, rfl, g2, fun o ho => (g3 o ho).trans (hF o ho)⟩, ?_⟩
      show m - (nI (i + 1)).toNatClampNeg < m - (nI i).toNatClampNeg
      rw [nI_clamp (by omega), nI_clamp (by omega)]
      omega
theorem rowBehind_spec {t n k ns C m : Nat} {Me W S E : Nat → Nat} {M : Mm} (h0 : M 0 0 = nI t) (hT : TW t n k ns C Me W S M) (hV : TV n k ns C Me W S) (hn : 0 < n) (hE : EV n k ns E) (hm : E 0 + m ≤ 12000) (hC : CE 37 n k E M) : ∃ M', f_X11_rowBehind 0 (nI m) M = some (nI (enc n (fun p => rgI n k ns C Me W S E m (5 + p))), M') ∧ ∀ o, o ≠ 115 → M' o = M o := by
  obtain ⟨M1, g1, g2, g3⟩ := wt_copy hC hE
  obtain ⟨M2, r1, r2, r3⟩ := stepTrial_spec (m := m) (by rw [g3 0 (by omega)]; exact h0) (TW_c hV (fun o ho => g3 o (by omega)) hT) hV hn hE hm g2
  unfold f_X11_rowBehind
  rw [g1, Bd_some, r1, Bd_some]
  exact ⟨M2, rfl, fun o ho => (r3 o ho).trans (g3 o ho)⟩
theorem Inv_tr {t n k ns C : Nat} {Me W S E : Nat → Nat} {M M' : Mm} (h : ∀ o j, ¬ Scrt o j → M' o j = M o j) (c : Inv t n k ns C Me W S E M) : InvX M' := ⟨t, n, k, ns, C, Me, W, S, E, Inv_scr h c⟩
theorem op_rowAt {M : Mm} (x : Int32) (h : InvX M) : ∃ r M1 M2, f_X11_rowAt 0 x M = some (r, M1) ∧ f_X12_rowAt 128 x M1 = some (r, M2) ∧ InvX M2 := by
  obtain ⟨t, n, k, ns, C, Me, W, S, E, hI⟩ := id h
  obtain ⟨ht, h00, hkd, t0, t1, t2⟩ := inv_t hI
  obtain ⟨m16, m17, m18, m19⟩ := inv_m hI
  obtain ⟨n1, n2, n3, n4, n5⟩ := inv_n hI
  obtain ⟨⟨hV, z0, z1, hT, hM⟩, ⟨hE, hC, hA⟩, -⟩ := id hI
  unfold f_X11_rowAt f_X12_rowAt
  simp only [h00, Gd_t hkd]
  rcases rng_cases 0 500 (by omega) (by omega) x with ⟨m, -, hm, rfl⟩ | hx
  · have hin : f_X12_in (nI m) (0 : Int32) (500 : Int32) = 1 := in_1 (lo := 0) (hi := 500) (by omega) hm (by omega)
    rw [if_neg (nI_lt0 (by omega)), if_pos (show nI m ≤ (500 : Int32) from nI_le (b := 500) hm (by omega))]
    by_cases hn : n = 0
    · subst hn
      rw [stands_0 t0, if_pos rfl]
      exact ⟨_, _, _, rfl, by rw [hin, if_neg one_ne, isTower_0 m16, if_pos rfl], h⟩
    · have he0 := hE.2.1
      rw [stands_1 t0 (by omega) n1, if_neg one_ne]
      obtain ⟨M1, g1, g3⟩ := rowBehind_spec (m := m) z0 hT hV (by omega) hE.1 (by omega) hC
      have hEm := EV_rgI hV (by omega) hE.1 m (by omega)
      have z1' : (M1 0 0).toNatClampNeg = t := by rw [g3 0 (by omega)]; exact h00
      rw [g1, Bd_some]
      simp only [z1', Gd_t hkd]
      rw [show M1 t 0 = nI n by rw [g3 t (by omega)]; exact t0, figures_enc n1 (fun p hp => by have := hEm.2.2.2.2.2.1 p hp; omega), Bd_some]
      obtain ⟨M2, r1, r2, r3⟩ := begin_spec (M := M1) (AR_c (fun j => by rw [g3 136 (by omega)]) hA)
      have hM2 : MT n k ns C Me W S M2 := MT_c (fun o ho => by rw [r3 o (by omega), g3 o (by omega)]) hM
      obtain ⟨M3, y1, y2, y3⟩ := goOn_spec (m := m) hM2 hV (by omega) hE.1 (by omega) r2
      refine ⟨_, _, M3, rfl, ?_, Inv_tr (fun o j q => ?_) hI⟩
      · rw [hin, if_neg one_ne, isTower_1 (n := n) (by rw [g3 128 (by omega)]; exact m16) (by omega) n1, if_neg one_ne, r1, Bd_some, y1, Bd_some, figOf_spec (by rw [y3 128 (by omega)]; exact hM2.1) n1 (by decide) (fun p hp => y2 (5 + p) (by omega)), Bd_some]
      · unfold Scrt at q
        rw [y3 o (by omega), r3 o (by omega), g3 o (by omega)]
  · have hin : f_X12_in x (0 : Int32) (500 : Int32) = 0 := in_0 (lo := 0) (hi := 500) hx
    rcases hx with hx | ⟨q1, q2, q3⟩
    · rw [if_pos (show x < 0 from hx)]
      exact ⟨_, _, _, rfl, by rw [hin, if_pos rfl], h⟩
    · rw [if_neg (show ¬ x < 0 from q1), if_neg (show ¬ x ≤ (500 : Int32) from q3)]
      exact ⟨_, _, _, rfl, by rw [hin, if_pos rfl], h⟩
theorem op_placeAt {M : Mm} (b x : Int32) (h : InvX M) : ∃ r M1 M2, f_X11_placeAt 0 b x M = some (r, M1) ∧ f_X12_placeAt 128 b x M1 = some (r, M2) ∧ InvX M2 := by
  obtain ⟨t, n, k, ns, C, Me, W, S, E, hI⟩ := id h
  obtain ⟨ht, h00, hkd, t0, t1, t2⟩ := inv_t hI
  obtain ⟨m16, m17, m18, m19⟩ := inv_m hI
  obtain ⟨n1, n2, n3, n4, n5⟩ := inv_n hI
  obtain ⟨⟨hV, z0, z1, hT, hM⟩, ⟨hE, hC, hA⟩, -⟩ := id hI
  unfold f_X11_placeAt f_X12_placeAt
  simp only [h00, Gd_t hkd]
  rcases bell_cases n1 b with ⟨b, hb, rfl⟩ | ⟨q1, q2⟩
  · have hn : 0 < n := by omega
    rw [hasBell_spec t0 hb (by omega), if_neg one_ne]
    rcases rng_cases 0 500 (by omega) (by omega) x with ⟨m, -, hm, rfl⟩ | hx
    · have hin : f_X12_in (nI m) (0 : Int32) (500 : Int32) = 1 := in_1 (lo := 0) (hi := 500) (by omega) hm (by omega)
      rw [if_neg (nI_lt0 (by omega)), if_pos (show nI m ≤ (500 : Int32) from nI_le (b := 500) hm (by omega))]
      have he0 := hE.2.1
      obtain ⟨M1, g1, g3⟩ := rowBehind_spec (m := m) z0 hT hV hn hE.1 (by omega) hC
      have hEm := EV_rgI hV hn hE.1 m (by omega)
      have hwn := hEm.2.2.2.2.2.1
      have hj := hEm.2.2.2.2.2.2.1
      have hw8 : ∀ p, p < n → rgI n k ns C Me W S E m (5 + p) < 8 := fun p hp => by have := hwn p hp; omega
      obtain ⟨p, hp, hpb⟩ := surj n (fun p => rgI n k ns C Me W S E m (5 + p)) hwn hj b hb
      have z1' : (M1 0 0).toNatClampNeg = t := by rw [g3 0 (by omega)]; exact h00
      rw [g1, Bd_some]
      simp only [z1', Gd_t hkd]
      rw [show M1 t 0 = nI n by rw [g3 t (by omega)]; exact t0, placeOf_enc n1 hw8 hp (by omega) hpb (fun q hq e => by have := hj q p (by omega) hp (by rw [show rgI n k ns C Me W S E m (5 + q) = b from e]; exact hpb.symm); omega), Bd_some]
      obtain ⟨M2, r1, r2, r3⟩ := begin_spec (M := M1) (AR_c (fun j => by rw [g3 136 (by omega)]) hA)
      have hM2 : MT n k ns C Me W S M2 := MT_c (fun o ho => by rw [r3 o (by omega), g3 o (by omega)]) hM
      obtain ⟨M3, y1, y2, y3⟩ := goOn_spec (m := m) hM2 hV hn hE.1 (by omega) r2
      refine ⟨_, _, M3, rfl, ?_, Inv_tr (fun o j q => ?_) hI⟩
      · rw [isBell_1 n1 hb (by rw [g3 128 (by omega)]; exact m16), if_neg one_ne, hin, if_neg one_ne, r1, Bd_some, y1, Bd_some, placeM_spec (by rw [y3 128 (by omega)]; exact hM2.1) n1 (by decide) (fun p hp => y2 (5 + p) (by omega)) hw8 hj (by omega) hp hpb, Bd_some]
      · unfold Scrt at q
        rw [y3 o (by omega), r3 o (by omega), g3 o (by omega)]
    · have hin : f_X12_in x (0 : Int32) (500 : Int32) = 0 := in_0 (lo := 0) (hi := 500) hx
      rcases hx with hx | ⟨q1, q2, q3⟩
      · rw [if_pos (show x < 0 from hx)]
        exact ⟨_, _, _, rfl, by rw [isBell_1 n1 hb m16, if_neg one_ne, hin, if_pos rfl], h⟩
      · rw [if_neg (show ¬ x < 0 from q1), if_neg (show ¬ x ≤ (500 : Int32) from q3)]
        exact ⟨_, _, _, rfl, by rw [isBell_1 n1 hb m16, if_neg one_ne, hin, if_pos rfl], h⟩
  · rw [q1 t M t0, if_pos rfl]
    exact ⟨_, _, _, rfl, by rw [q2 M m16, if_pos rfl], h⟩
/-! searching loops -/
def fQ (Q : Nat → Bool) (V : Nat → Int32) : Nat → Nat → Int32
  | _, 0 => -1
  | i, d + 1 => if Q i = true then V i else fQ Q V (i + 1) d
theorem srch {f : Int32 × Mm → Option ((Int32 × Mm) ⊕ ((Int32 × Mm) ⊕ Mm))} (J : Nat → Mm → Prop) (F : Mm → Prop) (Q : Nat → Bool) (V : Nat → Int32) (c lim : Nat) (hs : ∀ i Mi, i < lim → J i Mi → ∃ M', F M' ∧ (Q i = false → J (i + 1) M') ∧ f (nI (i + c), Mi) = if Q i = true then some (.inr (.inl (V i, M'))) else some (.inl (nI (i + 1 + c), M'))) (he : ∀ Mi, J lim Mi → F Mi ∧ f (nI (lim + c), Mi) = some (.inr (.inr Mi))) : ∀ d i Mi n, i + d = lim → J i Mi → d < n → ∃ M', F M' ∧ BdS (Lp f n (nI (i + c), Mi)) (fun e => some ((-1 : Int32), e)) = some (fQ Q V i d, M') := by
  intro d
  induction d with
  | zero =>
    intro i Mi n hi hJ hn
    have hil : i = lim := by omega
    subst hil
    obtain ⟨hF, h1⟩ := he Mi hJ
    obtain ⟨n', rfl⟩ : ∃ n', n = n' + 1 := ⟨n - 1, by omega⟩
    refine ⟨Mi, hF, ?_⟩
    simp only [Lp, h1, Option.bind_some]
    rfl
  | succ d ih =>
    intro i Mi n hi hJ hn
    obtain ⟨n', rfl⟩ : ∃ n', n = n' + 1 := ⟨n - 1, by omega⟩
    obtain ⟨M', hF, hJ', h1⟩ := hs i Mi (by omega) hJ
    by_cases hq : Q i = true
    · rw [if_pos hq] at h1
      refine ⟨M', hF, ?_⟩
      simp only [Lp, h1, Option.bind_some]
      show some (V i, M') = some ((if Q i = true then V i else fQ Q V (i + 1) d), M')
      rw [if_pos hq]
    · rw [if_neg hq] at h1
      have hqf : Q i = false := by simpa using hq
      obtain ⟨M2, g1, g2⟩ := ih (i + 1) M' n' (by omega) (hJ' hqf) (by omega)
      refine ⟨M2, g1, ?_⟩
      simp only [Lp, h1, Option.bind_some]
      rw [g2]
      show some (fQ Q V (i + 1) d, M2) = some ((if Q i = true then V i else fQ Q V (i + 1) d), M2)
      rw [if_neg hq]
theorem rowsEq {n : Nat} {w v : Nat → Nat} (hw : ∀ p, p < n → w p < 8) (hv : ∀ p, p < n → v p < 8) : enc n w = enc n v ↔ figs n w = figs n v :=
  ⟨fun h => figs_congr n w v (enc_inj hw hv h), fun h => enc_congr n w v (figs_inj (fun p hp => by have := hw p hp; omega) (fun p hp => by have := hv p hp; omega) h)⟩
theorem roundsNow_spec {n : Nat} {M : Mm} (hn : n ≤ 6) (m16 : M 128 16 = nI n) : f_X12_roundsNow 128 M = some (nI (figs n (fun p => p))) := by
  unfold f_X12_roundsNow
  have hs : ∀ i, i < n → b_X12_roundsNow_4 128 M (nI (figs i (fun p => p)), nI i) = some (.inl (nI (figs (i + 1) (fun p => p)), nI (i + 1))) := fun i hi => by
    unfold b_X12_roundsNow_4
    simp only [Lt_eq]
    rw [m16, if_neg (nI_ge hi (by omega)), fig_step2, nI_1]
    rfl
  have he : b_X12_roundsNow_4 128 M (nI (figs n (fun p => p)), nI n) = some (.inr (nI (figs n (fun p => p)))) := by
    unfold b_X12_roundsNow_4
    simp only [Lt_eq]
    rw [m16, if_pos (nI_le (Nat.le_refl _) (by omega))]
  exact Bd_Lp (s0 := ((0 : Int32), (0 : Int32))) (fun i => (nI (figs i (fun p => p)), nI i)) n _ rfl hs he (by omega)
theorem op_round {M : Mm} (h : InvX M) : ∃ r M1 M2, f_X11_round 0 M = some (r, M1) ∧ f_X12_round 128 M1 = some (r, M2) ∧ InvX M2 := by
  obtain ⟨t, n, k, ns, C, Me, W, S, E, hI⟩ := id h
  obtain ⟨ht, h00, hkd, t0, t1, t2⟩ := inv_t hI
  obtain ⟨m16, m17, m18, m19⟩ := inv_m hI
  obtain ⟨n1, n2, n3, n4, n5⟩ := inv_n hI
  obtain ⟨⟨hV, z0, z1, hT, hM⟩, ⟨hE, hC, hA⟩, -⟩ := id hI
  unfold f_X11_round f_X12_round
  simp only [h00, Gd_t hkd]
  by_cases hn : n = 0
  · subst hn
    rw [stands_0 t0, if_pos rfl]
    exact ⟨_, _, _, rfl, by rw [isTower_0 m16, if_pos rfl], h⟩
  · have hn' : 0 < n := by omega
    have he0 := hE.2.1
    rw [stands_1 t0 hn' n1, if_neg one_ne, t0, rounds_spec n (by omega), Bd_some]
    obtain ⟨M1, g1, g2, g3⟩ := wt_copy hC hE.1
    rw [g1, Bd_some]
    have h8 : ∀ i, i ≤ 1000 → ∀ p, p < n → rgI n k ns C Me W S E i (5 + p) < 8 := fun i hi p hp => by have := (EV_rgI hV hn' hE.1 i (by omega)).2.2.2.2.2.1 p hp; omega
    have hi8 : ∀ p, p < n → p < 8 := fun p hp => by omega
    obtain ⟨MC, c1, c2⟩ := srch (f := b_X11_round_40 0 (nI (enc n (fun p => p)))) (fun i Mi => WT n k (rgI n k ns C Me W S E i) (Mi 115) ∧ ∀ o, o ≠ 115 → Mi o = M o) (fun Mi => ∀ o, o ≠ 115 → Mi o = M o) (fun i => decide (figs n (fun p => rgI n k ns C Me W S E (i + 1) (5 + p)) = figs n (fun p => p))) (fun i => nI (i + 1)) 1 1000 (fun i Mi hi hJ => by
      obtain ⟨hW, hF⟩ := hJ
      obtain ⟨M2, r1, r2, r3⟩ := wt_step (TW_c hV (fun o ho => hF o (by omega)) hT) hV hn' (EV_rgI hV hn' hE.1 i (by omega)) hW
      have z : (Mi 0 0).toNatClampNeg = t := by rw [hF 0 (by omega)]; exact h00
      have hf2 : ∀ o, o ≠ 115 → M2 o = M o := fun o ho => (r3 o ho).trans (hF o ho)
      refine ⟨M2, hf2, fun _ => ⟨r2, hf2⟩, ?_⟩
      unfold b_X11_round_40
      simp only [Lt_eq, z, Gd_t hkd]
      rw [if_neg (show ¬ (1000 : Int32) < nI (i + 1) from nI_nlt (a := 1000) (by omega) (by omega)), r1, Bd_some, (show WT n k (rgI n k ns C Me W S E (i + 1)) (M2 115) from r2).1]
      have hb1 := enc_b n1 (h8 (i + 1) (by omega))
      have hb2 := enc_b n1 hi8
      have hiff := rowsEq (h8 (i + 1) (by omega)) hi8
      by_cases hq : figs n (fun p => rgI n k ns C Me W S E (i + 1) (5 + p)) = figs n (fun p => p)
      · rw [if_pos (show nI (enc n (fun p => rgI n k ns C Me W S E (i + 1) (5 + p))) = nI (enc n (fun p => p)) by rw [hiff.mpr hq]), if_pos (decide_eq_true hq)]
      · rw [if_neg (show ¬ nI (enc n (fun p => rgI n k ns C Me W S E (i + 1) (5 + p))) = nI (enc n (fun p => p)) from fun e => hq (hiff.mp (nI_inj (by omega) (by omega) e))), if_neg (by simpa using hq), nI_1]) (fun Mi hJ => ⟨hJ.2, by
      unfold b_X11_round_40
      rw [if_pos (show (1000 : Int32) < nI (1000 + 1) by decide)]⟩) 1000 0 M1 100000 (by omega) ⟨g2, g3⟩ (by omega)
    rw [show BdS (Lp (b_X11_round_40 0 (nI (enc n (fun p => p)))) 100000 ((1 : Int32), M1)) (fun e11 => some ((-1 : Int32), e11)) = _ from c2]
    obtain ⟨M2, r1, r2, r3⟩ := begin_spec (M := MC) (AR_c (fun j => by rw [c1 136 (by omega)]) hA)
    have r3' : ∀ o, o ≠ 115 → o ≠ 137 → M2 o = M o := fun o q1 q2 => (r3 o q2).trans (c1 o q1)
    obtain ⟨MM, d1, d2⟩ := srch (f := b_X12_round_16 128) (fun i Mi => AR (rgI n k ns C Me W S E i) (Mi 137) ∧ ∀ o, o ≠ 115 → o ≠ 137 → Mi o = M o) (fun Mi => ∀ o, o ≠ 115 → o ≠ 137 → Mi o = M o) (fun i => decide (figs n (fun p => rgI n k ns C Me W S E (i + 1) (5 + p)) = figs n (fun p => p))) (fun i => nI (i + 1)) 1 1000 (fun i Mi hi hJ => by
      obtain ⟨hW, hF⟩ := hJ
      have hMi : MT n k ns C Me W S Mi := MT_c (fun o ho => hF o (by omega) (by omega)) hM
      obtain ⟨M3, y1, y2, y3⟩ := goOn_spec (m := 1) hMi hV hn' (EV_rgI hV hn' hE.1 i (by omega)) (by rw [rgI_0]; omega) hW
      have y2' : AR (rgI n k ns C Me W S E (i + 1)) (M3 137) := y2
      have hf2 : ∀ o, o ≠ 115 → o ≠ 137 → M3 o = M o := fun o q1 q2 => (y3 o q2).trans (hF o q1 q2)
      refine ⟨M3, hf2, fun _ => ⟨y2', hf2⟩, ?_⟩
      have m16' : M3 128 16 = nI n := by rw [hf2 128 (by omega) (by omega)]; exact m16
      unfold b_X12_round_16
      simp only [Lt_eq]
      rw [if_neg (show ¬ (1000 : Int32) < nI (i + 1) from nI_nlt (a := 1000) (by omega) (by omega)), show f_X12_goOn 128 (1 : Int32) Mi = some M3 from y1, Bd_some, figOf_spec m16' n1 (by decide) (fun p hp => y2' (5 + p) (by omega)), Bd_some, roundsNow_spec n1 m16', Bd_some]
      have hb1 := figs_b n1 (fun p hp => by have := h8 (i + 1) (by omega) p hp; show rgI n k ns C Me W S E (i + 1) (5 + p) < 9; omega)
      have hb2 := figs_b (w := fun p => p) n1 (fun p hp => by show p < 9; omega)
      by_cases hq : figs n (fun p => rgI n k ns C Me W S E (i + 1) (5 + p)) = figs n (fun p => p)
      · rw [if_pos (show nI (figs n (fun p => rgI n k ns C Me W S E (i + 1) (5 + p))) = nI (figs n (fun p => p)) by rw [hq]), if_pos (decide_eq_true hq)]
      · rw [if_neg (show ¬ nI (figs n (fun p => rgI n k ns C Me W S E (i + 1) (5 + p))) = nI (figs n (fun p => p)) from fun e => hq (nI_inj (by omega) (by omega) e)), if_neg (by simpa using hq), nI_1]) (fun Mi hJ => ⟨hJ.2, by
      unfold b_X12_round_16
      rw [if_pos (show (1000 : Int32) < nI (1000 + 1) by decide)]⟩) 1000 0 M2 100000 (by omega) ⟨r2, r3'⟩ (by omega)
    refine ⟨_, MC, MM, rfl, ?_, Inv_tr (fun o j q => ?_) hI⟩
    · rw [isTower_1 (n := n) (by rw [c1 128 (by omega)]; exact m16) hn' n1, if_neg one_ne, r1, Bd_some]
      exact d2
    · unfold Scrt at q
      rw [d1 o (by omega) (by omega)]
