theorem changeRopes_spec {n k r q : Nat} {E : Nat → Nat} {M : Mm} (hr : r < 6) (hq : q < 6) (hC : CE 37 n k E M) (hn : n ≤ 6) : ∃ M', f_X1_changeRopes 37 (nI r) (nI q) M = some M' ∧ CE 37 n k (swE r q E) M' ∧ ∀ o, o ≠ 39 → M' o = M o := by
  obtain ⟨c1, c2, c3, ⟨w0, w1, w2⟩, cR, cT⟩ := hC
  unfold f_X1_changeRopes
  simp only [Lt_eq]
  rw [if_neg (nI_lt0 (by omega)), if_neg (show ¬ (6 : Int32) ≤ nI r from nI_ge (b := 6) hr (by omega)), if_neg (nI_lt0 (by omega)), if_neg (show ¬ (6 : Int32) ≤ nI q from nI_ge (b := 6) hq (by omega)), Gd_t ((ib_nI (by omega)).mpr hr), Gd_t ((ib_nI (by omega)).mpr hq), Gd_t ((ib_nI (by omega)).mpr hr), Gd_t ((ib_nI (by omega)).mpr hq), ix_nI (by omega), ix_nI (by omega), cR r hr, cR q hq]
  refine ⟨_, rfl, ⟨by rw [s2_ne (by omega), s2_ne (by omega), c1, swE_o hr hq (by omega)], by rw [s2_ne (by omega), s2_ne (by omega), c2, swE_o hr hq (by omega)], by rw [s2_ne (by omega), s2_ne (by omega), c3, swE_o hr hq (by omega)], ⟨?_, by rw [s2_ne (by omega), s2_ne (by omega), w1, swE_o hr hq (by omega)], by rw [s2_ne (by omega), s2_ne (by omega), w2, swE_o hr hq (by omega)]⟩, fun a ha => ?_, fun a ha => by rw [s2_ne (by omega), s2_ne (by omega), cT a ha, swE_o hr hq (by omega)]⟩, fun o ho => by rw [s2_ne (by omega), s2_ne (by omega)]⟩
  · rw [s2_ne (by omega), s2_ne (by omega), w0, enc_congr n (fun p => E (5 + p)) (fun p => swE r q E (5 + p)) (fun p _ => (swE_o hr hq (by omega)).symm)]
  · rw [s2_at, s2_at]
    unfold swE
    by_cases h1 : a = q
    · subst h1
      rw [if_pos ⟨rfl, rfl⟩]
      by_cases h2 : a = r
      · subst h2; rw [if_pos rfl]
      · rw [if_neg (by omega), if_pos rfl]
    · rw [if_neg (by omega)]
      by_cases h2 : a = r
      · subst h2; rw [if_pos ⟨rfl, rfl⟩, if_pos rfl]
      · rw [if_neg (by omega), if_neg (by omega), if_neg (by omega)]
        exact cR a ha
theorem swaps_spec {r q : Nat} {E : Nat → Nat} {M : Mm} (hr : r < 6) (hq : q < 6) (hA : AR E (M 136)) : ∃ M', f_X12_swaps 136 (nI r) (nI q) M = some M' ∧ AR (swE r q E) (M' 136) ∧ ∀ o, o ≠ 136 → M' o = M o := by
  unfold f_X12_swaps
  simp only [Lt_eq]
  rw [show (11 : Int32) + nI r = nI (11 + r) from nI_add 11 r, show (11 : Int32) + nI q = nI (11 + q) from nI_add 11 q, kl_137, Gd_t ((ib_nI (by omega)).mpr (by omega)), Gd_t ((ib_nI (by omega)).mpr (by omega)), Gd_t ((ib_nI (by omega)).mpr (by omega)), Gd_t ((ib_nI (by omega)).mpr (by omega)), ix_nI (by omega), ix_nI (by omega), hA _ (by omega), hA _ (by omega)]
  refine ⟨_, rfl, fun j hj => ?_, fun o ho => by rw [s2_ne (by omega), s2_ne (by omega)]⟩
  rw [s2_at, s2_at]
  unfold swE
  by_cases h1 : j = 11 + q
  · subst h1
    rw [if_pos ⟨rfl, rfl⟩]
    by_cases h2 : q = r
    · subst h2; rw [if_pos rfl]
    · rw [if_neg (by omega), if_pos rfl]
  · rw [if_neg (by omega)]
    by_cases h2 : j = 11 + r
    · subst h2; rw [if_pos ⟨rfl, rfl⟩, if_pos rfl]
    · rw [if_neg (by omega), if_neg (by omega), if_neg (by omega)]
      exact hA j hj
theorem op_swap {M : Mm} (x y : Int32) (h : InvX M) : ∃ r M1 M2, f_X11_swap 0 x y M = some (r, M1) ∧ f_X12_swap 128 x y M1 = some (r, M2) ∧ InvX M2 := by
  obtain ⟨t, n, k, ns, C, Me, W, S, E, hI⟩ := id h
  obtain ⟨ht, h00, hkd, t0, t1, t2⟩ := inv_t hI
  obtain ⟨m16, m17, m18, m19⟩ := inv_m hI
  obtain ⟨n1, n2, n3, n4, n5⟩ := inv_n hI
  unfold f_X11_swap f_X12_swap
  simp only [Lt_eq, h00, Gd_t hkd]
  obtain ⟨-, ⟨hE, hC, hA⟩, -⟩ := id hI
  rcases suit_cases (ns := ns) (by omega) x with ⟨r, hr, rfl⟩ | ⟨q1, q2⟩
  · rw [hasSuitor_spec t2 hr (by omega), if_neg one_ne]
    rcases suit_cases (ns := ns) (by omega) y with ⟨q, hq, rfl⟩ | ⟨q1, q2⟩
    · rw [hasSuitor_spec t2 hq (by omega), if_neg one_ne]
      by_cases hrq : r = q
      · subst hrq
        rw [if_pos rfl]
        exact ⟨_, _, _, rfl, by rw [isSuitor_1 (ns := ns) (by omega) hr m18, if_neg one_ne, if_neg one_ne, if_pos rfl], h⟩
      · have hne : ¬ nI r = nI q := fun e => hrq (nI_inj (by omega) (by omega) e)
        rw [if_neg hne]
        obtain ⟨M1, g1, g2, g3⟩ := rem_I hI
        rw [g1, Bd_some]
        have hC1 : CE 37 n k E M1 := CE_c (fun o j _ _ => by rw [g2 o (by omega)]) hC
        obtain ⟨M1', a1, a2, a3⟩ := changeRopes_spec (r := r) (q := q) (by omega) (by omega) hC1 n1
        rw [a1, Bd_some, ropeOf_spec (by omega) (a2.2.2.2.2.1 r (by omega)), Bd_some]
        have hx : ∀ o j, ¬ (41 ≤ o ∧ o ≤ 106) → ¬ (o = 39) → M1' o j = M o j := fun o j q1 q2 => by rw [a3 o (by omega), g2 o (by omega)]
        obtain ⟨M2, r1, r2, r3⟩ := g3 M1' (fun o j q => by rw [a3 o (by omega)]) (fun o j q => hx o j (by omega) (by omega))
        have hA2 : AR E (M2 136) := AR_c (fun j => by rw [r3 _ _ (by omega), hx _ _ (by omega) (by omega)]) hA
        obtain ⟨M2', b1, b2, b3⟩ := swaps_spec (r := r) (q := q) (by omega) (by omega) hA2
        have hf : ∀ o j, ¬ ((37 ≤ o ∧ o ≤ 106) ∨ o = 136 ∨ o = 138 ∨ (o = 128 ∧ j = 26)) → M2' o j = M o j := fun o j q => by rw [b3 o (by omega), r3 o j (by omega), hx o j (by omega) (by omega)]
        refine ⟨_, _, M2', rfl, ?_, t, n, k, ns, C, Me, W, S, swE r q E, Inv_ev (fun o j q => hf o j (by omega)) hI ⟨EQ_sw n1 (by omega) hr hq hE, ?_, b2⟩ (IB_c (fun o j q => by rw [b3 o (by omega)]) r2) (IS_c (fun o j q => hf o j (by omega)) hI.2.2.2.2.1)⟩
        · have q18 : M1' 128 18 = nI ns := by rw [hx _ _ (by omega) (by omega)]; exact m18
          rw [isSuitor_1 (ns := ns) (by omega) hr q18, if_neg one_ne, isSuitor_1 (ns := ns) (by omega) hq q18, if_neg one_ne, if_neg hne, r1, Bd_some, b1, Bd_some, show (11 : Int32) + nI r = nI (11 + r) from nI_add 11 r, Gd_t ((ib_nI (by omega)).mpr (by omega)), ix_nI (by omega), b2 _ (by omega)]
        · exact CE_c (fun o j _ _ => by rw [b3 o (by omega), r3 o j (by omega)]) a2
    · rw [q1 t M t2, if_pos rfl]
      exact ⟨_, _, _, rfl, by rw [isSuitor_1 (ns := ns) (by omega) hr m18, if_neg one_ne, q2 M m18, if_pos rfl], h⟩
  · rw [q1 t M t2, if_pos rfl]
    exact ⟨_, _, _, rfl, by rw [q2 M m18, if_pos rfl], h⟩
/-! figures of the row, in both -/
theorem figN_spec {t n k : Nat} {E : Nat → Nat} {M : Mm} (ht : t = 1 ∨ t = 18) (h0 : M 0 0 = nI t) (t0 : M t 0 = nI n) (hn : n ≤ 6) (hw : ∀ p, p < n → E (5 + p) < 8) (hC : CE 37 n k E M) : f_X11_figuresNow 0 M = some (nI (figs n (fun p => E (5 + p)))) := by
  unfold f_X11_figuresNow
  simp only [tw_ref h0 ht, Gd_t (kd_tw ht)]
  rw [hC.2.2.2.1.1, t0, figures_enc hn hw, Bd_some]
theorem figOf_spec {o1 n : Nat} {w : Nat → Nat} {M : Mm} (h : M 128 16 = nI n) (hn : n ≤ 6) (hl : kln o1 = 23) (hr : ∀ p, p < n → M o1 (5 + p) = nI (w p)) : f_X12_figuresOf 128 o1 M = some (nI (figs n w)) := by
  unfold f_X12_figuresOf
  have hs : ∀ i, i < n → b_X12_figuresOf_4 128 o1 M (nI (figs i w), nI i) = some (.inl (nI (figs (i + 1) w), nI (i + 1))) := fun i hi => by
    unfold b_X12_figuresOf_4
    simp only [Lt_eq]
    rw [h, if_neg (nI_ge hi (by omega)), show (5 : Int32) + nI i = nI (5 + i) from nI_add 5 i, hl, Gd_t ((ib_nI (by omega)).mpr (by omega)), ix_nI (by omega), hr i hi, fig_step2, nI_1]
    rfl
  have he : b_X12_figuresOf_4 128 o1 M (nI (figs n w), nI n) = some (.inr (nI (figs n w))) := by
    unfold b_X12_figuresOf_4
    simp only [Lt_eq]
    rw [h, if_pos (nI_le (Nat.le_refl _) (by omega))]
  exact Bd_Lp (s0 := ((0 : Int32), (0 : Int32))) (fun i => (nI (figs i w), nI i)) n (nI (figs n w)) rfl hs he (by omega)
/-! standing again -/
def rnE (E : Nat → Nat) : Nat → Nat := fun j => if j = 1 ∨ j = 2 then 0 else if 5 ≤ j ∧ j < 11 then j - 5 else E j
def stE (E : Nat → Nat) : Nat → Nat := fun j => if 17 ≤ j then 0 else rnE E j
theorem toRounds_spec {o1 : Nat} {E : Nat → Nat} {M : Mm} (hl : kln o1 = 23) (hA : AR E (M o1)) : ∃ M', f_X12_toRounds o1 M = some M' ∧ AR (rnE E) (M' o1) ∧ ∀ o, o ≠ o1 → M' o = M o := by
  unfold f_X12_toRounds
  have key := Lp_inv (f := b_X12_toRounds_2 o1) (fun s => ∃ i, i ≤ 6 ∧ s.1 = nI i ∧ (∀ j, j < 23 → s.2 o1 j = nI (if 5 ≤ j ∧ j < 5 + i then j - 5 else E j)) ∧ ∀ o, o ≠ o1 → s.2 o = M o) (fun s => 6 - s.1.toNatClampNeg) (fun t => (∀ j, j < 23 → t o1 j = nI (if 5 ≤ j ∧ j < 5 + 6 then j - 5 else E j)) ∧ ∀ o, o ≠ o1 → t o = M o) ?_ 100000 ((0 : Int32), M) ⟨0, by omega, rfl, fun j hj => by rw [if_neg (by omega)]; exact hA j hj, fun _ _ => rfl⟩ (by show 6 - _ < _; omega)
  · obtain ⟨M1, g1, g2, g3⟩ := key
    rw [g1, Bd_some, hl]
    simp only [Lt_eq]
    rw [Gd_t (show ib (1 : Int32) 23 by decide), Gd_t (show ib (2 : Int32) 23 by decide)]
    refine ⟨_, rfl, fun j hj => ?_, fun o ho => by rw [s2_ne (by omega), s2_ne (by omega), g3 o ho]⟩
    rw [s2_at, s2_at, show ix (1 : Int32) = 1 by decide, show ix (2 : Int32) = 2 by decide]
    unfold rnE
    by_cases h2 : j = 2
    · rw [if_pos ⟨rfl, h2⟩, if_pos (by omega)]; rfl
    · rw [if_neg (by omega)]
      by_cases h1 : j = 1
      · rw [if_pos ⟨rfl, h1⟩, if_pos (by omega)]; rfl
      · rw [if_neg (by omega), if_neg (show ¬ (j = 1 ∨ j = 2) by omega), g2 j hj]
  · rintro ⟨x, Mi⟩ ⟨i, hi, hx, hAi, hF⟩
    simp only at hx hAi hF
    subst hx
    unfold b_X12_toRounds_2
    simp only [Lt_eq]
    by_cases hin : i = 6
    · subst hin
      exact Or.inr ⟨_, by rw [if_pos (show (6 : Int32) ≤ nI 6 by decide)], hAi, hF⟩
    · refine Or.inl ⟨_, by rw [if_neg (show ¬ (6 : Int32) ≤ nI i from nI_ge (b := 6) (by omega) (by omega)), show (5 : Int32) + nI i = nI (5 + i) from nI_add 5 i, hl, Gd_t ((ib_nI (by omega)).mpr (by omega)), ix_nI (by omega), nI_1], ⟨i + 1, by omega, rfl, fun j hj => ?_, fun o ho => (s2_ne ho).trans (hF o ho)⟩, ?_⟩
      · show st2 Mi o1 (5 + i) (nI i) o1 j = _
        rw [s2_at]
        by_cases hj2 : j = 5 + i
        · rw [if_pos ⟨rfl, hj2⟩, if_pos (by omega), show j - 5 = i by omega]
        · rw [if_neg (by omega), hAi j hj]
          by_cases hj3 : 5 ≤ j ∧ j < 5 + i
          · rw [if_pos hj3, if_pos (by omega)]
          · rw [if_neg hj3, if_neg (by omega)]
      · show 6 - (nI (i + 1)).toNatClampNeg < 6 - (nI i).toNatClampNeg
        rw [nI_clamp (by omega), nI_clamp (by omega)]
        omega
theorem fill_spec {o1 : Nat} {x : Int32} {M : Mm} (hl : kln o1 < 2000) : ∃ M', f_J7_fill_53178 o1 x M = some M' ∧ (∀ j, j < kln o1 → M' o1 j = x) ∧ ∀ o, o ≠ o1 → M' o = M o := by
  unfold f_J7_fill_53178
  generalize hL : kln o1 = L at *
  have key := Lp_inv (f := b_J7_fill_53178_5 o1 x (nI L)) (fun s => ∃ i, i ≤ L ∧ s.1 = nI i ∧ (∀ j, j < i → s.2 o1 j = x) ∧ ∀ o, o ≠ o1 → s.2 o = M o) (fun s => L - s.1.toNatClampNeg) (fun t => (∀ j, j < L → t o1 j = x) ∧ ∀ o, o ≠ o1 → t o = M o) ?_ 100000 ((0 : Int32), M) ⟨0, by omega, rfl, fun j hj => by omega, fun _ _ => rfl⟩ (by show L - _ < _; omega)
  · obtain ⟨M1, g1, g2, g3⟩ := key
    exact ⟨M1, by rw [Lt_eq, g1, Bd_some], g2, g3⟩
  · rintro ⟨y, Mi⟩ ⟨i, hi, hy, hAi, hF⟩
    simp only at hy hAi hF
    subst hy
    unfold b_J7_fill_53178_5
    simp only [Lt_eq]
    by_cases hin : i = L
    · subst hin
      exact Or.inr ⟨_, by rw [if_pos (nI_le (Nat.le_refl _) (by omega))], hAi, hF⟩
    · refine Or.inl ⟨_, by rw [if_neg (nI_ge (show i < L by omega) (by omega)), hL, Gd_t ((ib_nI (by omega)).mpr (by omega)), ix_nI (by omega), nI_1], ⟨i + 1, by omega, rfl, fun j hj => ?_, fun o ho => (s2_ne ho).trans (hF o ho)⟩, ?_⟩
      · show st2 Mi o1 i x o1 j = _
        rw [s2_at]
        by_cases hj2 : j = i
        · rw [if_pos ⟨rfl, hj2⟩]
        · rw [if_neg (by omega), hAi j (by omega)]
      · show L - (nI (i + 1)).toNatClampNeg < L - (nI i).toNatClampNeg
        rw [nI_clamp (by omega), nI_clamp (by omega)]
        omega
theorem wbegin_spec {wo t n : Nat} {M : Mm} (t0 : M t 0 = nI n) (hn : n ≤ 6) : ∃ M', f_X10_begin wo t M = some M' ∧ WKr n (fun p => p) 0 0 (M' wo) ∧ ∀ o, o ≠ wo → M' o = M o := by
  unfold f_X10_begin
  simp only [Lt_eq]
  rw [t0, rounds_spec n (by omega), Bd_some]
  exact ⟨_, rfl, ⟨by rw [s2_nk (by omega), s2_nk (by omega), s2_eq], by rw [s2_nk (by omega), s2_eq]; rfl, by rw [s2_eq]; rfl⟩, fun o ho => by rw [s2_ne ho, s2_ne ho, s2_ne ho]⟩
theorem rnE_row {n p : Nat} {E : Nat → Nat} (hn : n ≤ 6) (hp : p < n) : rnE E (5 + p) = p := by
  unfold rnE; rw [if_neg (by omega), if_pos (by omega)]; omega
theorem EQ_st {n k ns : Nat} {E : Nat → Nat} (hn : n ≤ 6) (hns : ns ≤ 6) (h : EQ n k ns E) : EQ n k ns (stE E) := by
  obtain ⟨⟨h0, h1, h2, h3, h4, h5, h6, h7, h8, h9⟩, g1, g2⟩ := h
  have o : ∀ j, j = 0 ∨ j = 3 ∨ j = 4 ∨ (11 ≤ j ∧ j < 17) → stE E j = E j := fun j hj => by
    unfold stE rnE; rw [if_neg (by omega), if_neg (by omega), if_neg (by omega)]
  have r : ∀ p, p < n → stE E (5 + p) = p := fun p hp => by
    unfold stE; rw [if_neg (by omega)]; exact rnE_row hn hp
  refine ⟨⟨by rw [o 0 (by omega)]; exact h0, by show 0 ≤ _; omega, by show 0 < 2; omega, by rw [o 3 (by omega)]; exact h3, by rw [o 4 (by omega)]; exact h4, fun p hp => by rw [r p hp]; exact hp, fun p q hp hq => by rw [r p hp, r q hq]; exact id, fun r hr => by rw [o _ (by omega)]; exact h7 r hr, fun r q hr hq => by rw [o _ (by omega), o _ (by omega)]; exact h8 r q hr hq, fun r hr => by unfold stE; rw [if_pos (by omega)]; omega⟩, by rw [o 0 (by omega)]; exact g1, fun _ => rfl⟩
theorem standAgain_spec {t n k : Nat} {E : Nat → Nat} {M : Mm} (t0 : M t 0 = nI n) (hn : n ≤ 6) (hC : CE 37 n k E M) : ∃ M', f_X1_standAgain 37 t M = some M' ∧ CE 37 n k (stE E) M' ∧ ∀ o, ¬ (o = 38 ∨ o = 40) → M' o = M o := by
  obtain ⟨c1, c2, c3, ⟨w0, w1, w2⟩, cR, cT⟩ := hC
  unfold f_X1_standAgain
  obtain ⟨M1, g1, ⟨g2, g3, g4⟩, g5⟩ := wbegin_spec (wo := 37 + 1) t0 hn
  rw [g1, Bd_some]
  obtain ⟨M2, r1, r2, r3⟩ := fill_spec (o1 := 37 + 3) (x := 0) (M := M1) (by decide)
  rw [r1, Bd_some]
  have k40 : kln (37 + 3) = 6 := by decide
  refine ⟨_, rfl, ⟨by rw [r3 _ (by omega), g5 _ (by omega), c1]; rfl, by rw [r3 _ (by omega), g5 _ (by omega), c2]; rfl, by rw [r3 _ (by omega), g5 _ (by omega), c3]; rfl, ⟨?_, ?_, ?_⟩, fun r hr => ?_, fun r hr => ?_⟩, fun o ho => by rw [r3 o (by omega), g5 o (by omega)]⟩
  · rw [r3 _ (by omega), g2, enc_congr n (fun p => p) (fun p => stE E (5 + p)) (fun p hp => by unfold stE; rw [if_neg (by omega), rnE_row hn hp])]
  · rw [r3 _ (by omega), g3]
    show nI 0 = nI (0 % k)
    rw [Nat.zero_mod]
  · rw [r3 _ (by omega), g4]; rfl
  · rw [r3 _ (by omega), g5 _ (by omega), cR r hr]
    unfold stE rnE
    rw [if_neg (by omega), if_neg (by omega), if_neg (by omega)]
  · rw [r2 r (by rw [k40]; exact hr)]
    unfold stE
    rw [if_pos (by omega)]
    rfl
theorem standL_spec {E : Nat → Nat} {M : Mm} (hA : AR E (M 136)) : ∃ M', Lp (b_X12_stand_32) 100000 ((0 : Int32), M) = some M' ∧ AR (fun j => if 17 ≤ j then 0 else E j) (M' 136) ∧ ∀ o, o ≠ 136 → M' o = M o := by
  have key := Lp_inv (f := b_X12_stand_32) (fun s => ∃ i, i ≤ 6 ∧ s.1 = nI i ∧ (∀ j, j < 23 → s.2 136 j = nI (if 17 ≤ j ∧ j < 17 + i then 0 else E j)) ∧ ∀ o, o ≠ 136 → s.2 o = M o) (fun s => 6 - s.1.toNatClampNeg) (fun t => (∀ j, j < 23 → t 136 j = nI (if 17 ≤ j then 0 else E j)) ∧ ∀ o, o ≠ 136 → t o = M o) ?_ 100000 ((0 : Int32), M) ⟨0, by omega, rfl, fun j hj => by rw [if_neg (by omega)]; exact hA j hj, fun _ _ => rfl⟩ (by show 6 - _ < _; omega)
  · exact key
  · rintro ⟨x, Mi⟩ ⟨i, hi, hx, hAi, hF⟩
    simp only at hx hAi hF
    subst hx
    unfold b_X12_stand_32
    simp only [Lt_eq]
    by_cases hin : i = 6
    · subst hin
      refine Or.inr ⟨_, by rw [if_pos (show (6 : Int32) ≤ nI 6 by decide)], fun j hj => ?_, hF⟩
      rw [hAi j hj]
      by_cases hj3 : 17 ≤ j
      · rw [if_pos hj3, if_pos (by omega)]
      · rw [if_neg hj3, if_neg (by omega)]
    · refine Or.inl ⟨_, by rw [if_neg (show ¬ (6 : Int32) ≤ nI i from nI_ge (b := 6) (by omega) (by omega)), show (17 : Int32) + nI i = nI (17 + i) from nI_add 17 i, Gd_t ((ib_nI (by omega)).mpr (by omega)), ix_nI (by omega), nI_1], ⟨i + 1, by omega, rfl, fun j hj => ?_, fun o ho => (s2_ne ho).trans (hF o ho)⟩, ?_⟩
      · show st2 Mi 136 (17 + i) 0 136 j = _
        rw [s2_at]
        by_cases hj2 : j = 17 + i
        · rw [if_pos ⟨rfl, hj2⟩, if_pos (by omega)]; rfl
        · rw [if_neg (by omega), hAi j hj]
          by_cases hj3 : 17 ≤ j ∧ j < 17 + i
          · rw [if_pos hj3, if_pos (by omega)]
          · rw [if_neg hj3, if_neg (by omega)]
      · show 6 - (nI (i + 1)).toNatClampNeg < 6 - (nI i).toNatClampNeg
        rw [nI_clamp (by omega), nI_clamp (by omega)]
        omega
theorem op_stand {M : Mm} (h : InvX M) : ∃ r M1 M2, f_X11_stand 0 M = some (r, M1) ∧ f_X12_stand 128 M1 = some (r, M2) ∧ InvX M2 := by
  obtain ⟨t, n, k, ns, C, Me, W, S, E, hI⟩ := id h
  obtain ⟨ht, h00, hkd, t0, t1, t2⟩ := inv_t hI
  obtain ⟨m16, m17, m18, m19⟩ := inv_m hI
  obtain ⟨n1, n2, n3, n4, n5⟩ := inv_n hI
  unfold f_X11_stand f_X12_stand
  simp only [Lt_eq, h00, Gd_t hkd]
  obtain ⟨⟨-, z0, -⟩, ⟨hE, hC, hA⟩, -⟩ := id hI
  by_cases hn : n = 0
  · subst hn
    rw [stands_0 t0, if_pos rfl]
    exact ⟨_, _, _, rfl, by rw [isTower_0 m16, if_pos rfl], h⟩
  · rw [stands_1 t0 (by omega) n1, if_neg one_ne]
    have hw : ∀ p, p < n → E (5 + p) < 8 := fun p hp => by have := hE.1.2.2.2.2.2.1 p hp; omega
    rw [figN_spec ht z0 t0 n1 hw hC, Bd_some]
    obtain ⟨M1, g1, g2, g3⟩ := rem_I hI
    have z1 : (M1 0 0).toNatClampNeg = t := by rw [g2 0 (by omega)]; exact h00
    simp only [g1, Bd_some, z1, Gd_t hkd]
    have hC1 : CE 37 n k E M1 := CE_c (fun o j _ _ => by rw [g2 o (by omega)]) hC
    obtain ⟨M1', a1, a2, a3⟩ := standAgain_spec (t := t) (by rw [g2 t (by omega)]; exact t0) n1 hC1
    rw [a1, Bd_some]
    have hx : ∀ o j, ¬ (41 ≤ o ∧ o ≤ 106) → ¬ (o = 38 ∨ o = 40) → M1' o j = M o j := fun o j q1 q2 => by rw [a3 o q2, g2 o (by omega)]
    obtain ⟨M2, r1, r2, r3⟩ := g3 M1' (fun o j q => by rw [a3 o (by omega)]) (fun o j q => hx o j (by omega) (by omega))
    have hA2 : AR E (M2 136) := AR_c (fun j => by rw [r3 _ _ (by omega), hx _ _ (by omega) (by omega)]) hA
    obtain ⟨M3, b1, b2, b3⟩ := toRounds_spec (o1 := 136) (by decide) hA2
    obtain ⟨M4, d1, d2, d3⟩ := standL_spec b2
    have hf : ∀ o j, ¬ ((37 ≤ o ∧ o ≤ 106) ∨ o = 136 ∨ o = 138 ∨ (o = 128 ∧ j = 26)) → M4 o j = M o j := fun o j q => by rw [d3 o (by omega), b3 o (by omega), r3 o j (by omega), hx o j (by omega) (by omega)]
    refine ⟨_, _, M4, rfl, ?_, t, n, k, ns, C, Me, W, S, stE E, Inv_ev (fun o j q => hf o j (by omega)) hI ⟨EQ_st n1 (by omega) hE, ?_, d2⟩ (IB_c (fun o j q => by rw [d3 o (by omega), b3 o (by omega)]) r2) (IS_c (fun o j q => hf o j (by omega)) hI.2.2.2.2.1)⟩
    · have q16 : M2 128 16 = nI n := by rw [r3 _ _ (by omega), hx _ _ (by omega) (by omega)]; exact m16
      rw [isTower_1 (n := n) (by rw [hx _ _ (by omega) (by omega)]; exact m16) (by omega) n1, if_neg one_ne, r1, Bd_some, figOf_spec q16 n1 (by decide) (fun p hp => hA2 (5 + p) (by omega)), Bd_some, b1, Bd_some, d1, Bd_some]
    · exact CE_c (fun o j _ _ => by rw [d3 o (by omega), b3 o (by omega), r3 o j (by omega)]) a2
