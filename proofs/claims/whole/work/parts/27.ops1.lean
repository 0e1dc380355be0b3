/-! which numbers are within bounds -/
theorem rng_cases (lo hi : Nat) (hl : lo < 2 ^ 31) (hh : hi < 2 ^ 31) (x : Int32) : (∃ a, lo ≤ a ∧ a ≤ hi ∧ x = nI a) ∨ x < nI lo ∨ (¬ x < nI lo ∧ nI hi < x ∧ ¬ x ≤ nI hi) := by
  by_cases h1 : x < nI lo
  · exact Or.inr (Or.inl h1)
  · have e1 : ¬ x.toInt < lo := fun q => h1 (Int32.lt_iff_toInt_lt.mpr (by rw [nI_toInt hl]; exact q))
    by_cases h2 : x ≤ nI hi
    · have e2 := Int32.le_iff_toInt_le.mp h2
      rw [nI_toInt hh] at e2
      rcases i_cases x with h3 | ⟨a, ha, rfl⟩
      · have e3 := Int32.lt_iff_toInt_lt.mp h3
        have e4 : (0 : Int32).toInt = 0 := by decide
        omega
      · rw [nI_toInt ha] at e1 e2
        exact Or.inl ⟨a, by omega, by omega, rfl⟩
    · refine Or.inr (Or.inr ⟨h1, ?_, h2⟩)
      have e2 : ¬ x.toInt ≤ (nI hi).toInt := fun q => h2 (Int32.le_iff_toInt_le.mpr q)
      exact Int32.lt_iff_toInt_lt.mpr (by omega)
theorem in_1 {lo hi a : Nat} (h1 : lo ≤ a) (h2 : a ≤ hi) (hh : hi < 2 ^ 31) : f_X12_in (nI a) (nI lo) (nI hi) = 1 := by
  unfold f_X12_in
  rw [if_neg (nI_nlt h1 (by omega)), if_neg (nI_nlt h2 hh)]
theorem in_0 {lo hi : Nat} {x : Int32} (h : x < nI lo ∨ (¬ x < nI lo ∧ nI hi < x ∧ ¬ x ≤ nI hi)) : f_X12_in x (nI lo) (nI hi) = 0 := by
  unfold f_X12_in
  rcases h with h | ⟨h1, h2, -⟩
  · rw [if_pos h]
  · rw [if_neg h1, if_pos h2]
theorem suit_cases {ns : Nat} (hns : ns ≤ 6) (x : Int32) : (∃ r, r < ns ∧ x = nI r) ∨ ((∀ (t : Nat) (M : Mm), M t 2 = nI ns → f_X9_hasSuitor t x M = 0) ∧ ∀ M : Mm, M 128 18 = nI ns → f_X12_isSuitor 128 x M = 0) := by
  by_cases h1 : x < 0
  · refine Or.inr ⟨fun t M h => ?_, fun M h => ?_⟩
    · unfold f_X9_hasSuitor; rw [if_pos h1]
    · unfold f_X12_isSuitor f_X12_in; rw [if_pos h1]
  · obtain ⟨a, ha, rfl⟩ := nI_of h1
    by_cases h2 : a < ns
    · exact Or.inl ⟨a, h2, rfl⟩
    · refine Or.inr ⟨fun t M h => ?_, fun M h => ?_⟩
      · unfold f_X9_hasSuitor; rw [if_neg h1, h, if_pos (nI_le (by omega) ha)]
      · unfold f_X12_isSuitor f_X12_in
        rw [if_neg h1, h]
        rw [if_pos]
        rw [Int32.lt_iff_toInt_lt, nI_toInt ha, show (nI ns - (1 : Int32)).toInt = (ns : Int) - 1 from pk_sub_toInt (b := 1) (by omega) (by omega)]
        omega
theorem isSuitor_1 {ns r : Nat} {M : Mm} (hns : ns ≤ 6) (hr : r < ns) (h : M 128 18 = nI ns) : f_X12_isSuitor 128 (nI r) M = 1 := by
  unfold f_X12_isSuitor
  rw [h, show nI ns - (1 : Int32) = nI (ns - 1) from pk_sub (b := 1) (by omega)]
  exact in_1 (lo := 0) (by omega) (by omega) (by omega)
theorem bell_cases {n : Nat} (hn : n ≤ 6) (x : Int32) : (∃ r, r < n ∧ x = nI r) ∨ ((∀ (t : Nat) (M : Mm), M t 0 = nI n → f_X9_hasBell t x M = 0) ∧ ∀ M : Mm, M 128 16 = nI n → f_X12_isBell 128 x M = 0) := by
  by_cases h1 : x < 0
  · refine Or.inr ⟨fun t M h => ?_, fun M h => ?_⟩
    · unfold f_X9_hasBell; rw [if_pos h1]
    · unfold f_X12_isBell f_X12_in; rw [if_pos h1]
  · obtain ⟨a, ha, rfl⟩ := nI_of h1
    by_cases h2 : a < n
    · exact Or.inl ⟨a, h2, rfl⟩
    · refine Or.inr ⟨fun t M h => ?_, fun M h => ?_⟩
      · unfold f_X9_hasBell; rw [if_neg h1, h, if_pos (nI_le (by omega) ha)]
      · unfold f_X12_isBell f_X12_in
        rw [if_neg h1, h]
        rw [if_pos]
        rw [Int32.lt_iff_toInt_lt, nI_toInt ha, show (nI n - (1 : Int32)).toInt = (n : Int) - 1 from pk_sub_toInt (b := 1) (by omega) (by omega)]
        omega
theorem isBell_1 {n b : Nat} {M : Mm} (hn : n ≤ 6) (hb : b < n) (h : M 128 16 = nI n) : f_X12_isBell 128 (nI b) M = 1 := by
  unfold f_X12_isBell
  rw [h, show nI n - (1 : Int32) = nI (n - 1) from pk_sub (b := 1) (by omega)]
  exact in_1 (lo := 0) (by omega) (by omega) (by omega)
theorem stands_0 {t : Nat} {M : Mm} (h : M t 0 = nI 0) : f_X9_stands t M = 0 := by
  unfold f_X9_stands; rw [h]; rfl
theorem stands_1 {t n : Nat} {M : Mm} (h : M t 0 = nI n) (hn : 0 < n) (hn2 : n ≤ 6) : f_X9_stands t M = 1 := by
  unfold f_X9_stands; rw [h, if_neg (nI_nle hn (by omega))]
theorem isTower_0 {M : Mm} (h : M 128 16 = nI 0) : f_X12_isTower 128 M = 0 := by
  unfold f_X12_isTower; rw [h]; rfl
theorem isTower_1 {n : Nat} {M : Mm} (h : M 128 16 = nI n) (hn : 0 < n) (hn2 : n ≤ 6) : f_X12_isTower 128 M = 1 := by
  unfold f_X12_isTower; rw [h, if_neg (nI_nle hn (by omega))]
theorem one_ne : ¬ (1 : Int32) = 0 := by decide
theorem tw_ref {t : Nat} {M : Mm} (h : M 0 0 = nI t) (ht : t = 1 ∨ t = 18) : (M 0 0).toNatClampNeg = t := by
  rw [h, nI_clamp (by omega)]
/-! the evening with some of it written over -/
theorem EQ_up {n k ns i v : Nat} {E : Nat → Nat} (h : EQ n k ns E) (hv : (i = 2 ∧ v < 2) ∨ (i = 3 ∧ v < 2) ∨ (i = 4 ∧ v < 2 ^ ns)) : EQ n k ns (up1 E i v) := by
  obtain ⟨⟨h0, h1, h2, h3, h4, h5, h6, h7, h8, h9⟩, g1, g2⟩ := h
  have o : ∀ j, j ≠ i → up1 E i v j = E j := fun j hj => by unfold up1; rw [if_neg hj]
  have s : up1 E i v i = v := by unfold up1; rw [if_pos rfl]
  refine ⟨⟨by rw [o 0 (by omega)]; exact h0, by rw [o 0 (by omega), o 1 (by omega)]; exact h1, ?_, ?_, ?_, fun p hp => by rw [o _ (by omega)]; exact h5 p hp, fun p q hp hq => by rw [o _ (by omega), o _ (by omega)]; exact h6 p q hp hq, fun r hr => by rw [o _ (by omega)]; exact h7 r hr, fun r q hr hq => by rw [o _ (by omega), o _ (by omega)]; exact h8 r q hr hq, fun r hr => by rw [o _ (by omega)]; exact h9 r hr⟩, by rw [o 0 (by omega)]; exact g1, fun hn => by rw [o 1 (by omega)]; exact g2 hn⟩
  · by_cases hi : i = 2
    · subst hi; rw [s]; omega
    · rw [o 2 (by omega)]; exact h2
  · by_cases hi : i = 3
    · subst hi; rw [s]; omega
    · rw [o 3 (by omega)]; exact h3
  · by_cases hi : i = 4
    · subst hi; rw [s]; omega
    · rw [o 4 (by omega)]; exact h4
def swE (r q : Nat) (E : Nat → Nat) : Nat → Nat := fun j => if j = 11 + r then E (11 + q) else if j = 11 + q then E (11 + r) else E j
theorem swE_o {r q j : Nat} {E : Nat → Nat} (hr : r < 6) (hq : q < 6) (h : j < 11 ∨ 17 ≤ j) : swE r q E j = E j := by
  unfold swE; rw [if_neg (by omega), if_neg (by omega)]
theorem EQ_sw {n k ns r q : Nat} {E : Nat → Nat} (hn : n ≤ 6) (hns : ns ≤ 6) (hr : r < ns) (hq : q < ns) (h : EQ n k ns E) : EQ n k ns (swE r q E) := by
  obtain ⟨⟨h0, h1, h2, h3, h4, h5, h6, h7, h8, h9⟩, g1, g2⟩ := h
  have o : ∀ j, j < 11 ∨ 17 ≤ j → swE r q E j = E j := fun j hj => swE_o (by omega) (by omega) hj
  refine ⟨⟨by rw [o 0 (by omega)]; exact h0, by rw [o 0 (by omega), o 1 (by omega)]; exact h1, by rw [o 2 (by omega)]; exact h2, by rw [o 3 (by omega)]; exact h3, by rw [o 4 (by omega)]; exact h4, fun p hp => by rw [o _ (by omega)]; exact h5 p hp, fun p q hp hq => by rw [o _ (by omega), o _ (by omega)]; exact h6 p q hp hq, fun a ha => ?_, fun a b ha hb => ?_, fun r hr => by rw [o _ (by omega)]; exact h9 r hr⟩, by rw [o 0 (by omega)]; exact g1, fun hn => by rw [o 1 (by omega)]; exact g2 hn⟩
  · unfold swE
    split
    · exact h7 q hq
    · split
      · exact h7 r hr
      · exact h7 a ha
  · have e : ∀ a, a < ns → swE r q E (11 + a) = E (11 + (if a = r then q else if a = q then r else a)) := fun a ha => by
      unfold swE
      by_cases c1 : a = r
      · rw [if_pos (by omega), if_pos c1]
      · rw [if_neg (by omega), if_neg c1]
        by_cases c2 : a = q
        · rw [if_pos (by omega), if_pos c2]
        · rw [if_neg (by omega), if_neg c2]
    rw [e a ha, e b hb]
    intro g
    have := h8 _ _ (by split; omega; split <;> omega) (by split; omega; split <;> omega) g
    revert this
    split <;> split <;> (try split) <;> (try split) <;> omega
/-- remembering, in both -/
theorem rem_I {t n k ns C : Nat} {Me W S E : Nat → Nat} {M : Mm} (hI : Inv t n k ns C Me W S E M) : ∃ M1, f_X3_remember 41 37 M = some M1 ∧ (∀ o, (o < 41 ∨ 106 < o) → M1 o = M o) ∧ ∀ Mx : Mm, (∀ o j, 41 ≤ o ∧ o ≤ 106 → Mx o j = M1 o j) → (∀ o j, o = 138 ∨ o = 136 ∨ (o = 128 ∧ j = 26) → Mx o j = M o j) → ∃ M2, f_X12_note 128 Mx = some M2 ∧ IB n k ns M2 ∧ ∀ o j, ¬ (o = 138 ∨ (o = 128 ∧ j = 26)) → M2 o j = Mx o j := by
  obtain ⟨-, ⟨hE, hC, hA⟩, -, -, -, ⟨bk, nx, B, b1, b2, b3, b4, b5⟩, -⟩ := hI
  obtain ⟨M1, g1, g2, g3⟩ := remember_spec hC hE.1 b4 b1 b2
  refine ⟨M1, g1, g3, fun Mx x1 x2 => ?_⟩
  obtain ⟨M2, r1, r2, r3⟩ := note_spec (M := Mx) (E := E) (AR_c (fun j => x2 _ _ (by omega)) hA) (PR_c (fun o j g => x2 o j (by omega)) b5) b1
  refine ⟨M2, r1, ⟨ntK bk, _, ntB bk B E, by unfold ntK; split <;> omega, ?_, fun i hi => ?_, PC_c (fun o j g => (r3 o j (by omega)).trans (x1 o j g)) g2, r2⟩, r3⟩
  · split <;> omega
  · unfold ntB
    unfold ntK at hi
    split
    · split
      · exact hE
      · rw [if_pos (by assumption)] at hi; exact b3 _ (by omega)
    · split
      · exact hE
      · rw [if_neg (by assumption)] at hi; exact b3 _ (by omega)
def InvX (M : Mm) : Prop := ∃ (t n k ns C : Nat) (Me W S E : Nat → Nat), Inv t n k ns C Me W S E M
theorem op_fault {M : Mm} (h : InvX M) : f_X11_fault 0 M = f_X12_fault 128 M := by
  obtain ⟨t, n, k, ns, C, Me, W, S, E, hI⟩ := h
  exact hI.2.2.2.1
theorem op_seed {M : Mm} (x : Int32) (h : InvX M) : ∃ r M1 M2, f_X11_seed 0 x M = some (r, M1) ∧ f_X12_seed 128 x M1 = some (r, M2) ∧ InvX M2 := by
  unfold f_X11_seed f_X12_seed
  simp only [Lt_eq]
  by_cases hx : 0 ≤ x
  · obtain ⟨t, n, k, ns, C, Me, W, S, E, c1, c2, c3, c4, ⟨sd, s1, s2, s3⟩, c6, c7, c8, c9⟩ := h
    have hx2 : ¬ x < 0 := fun q => by
      have := Int32.lt_iff_toInt_lt.mp q
      have := Int32.le_iff_toInt_le.mp hx
      omega
    obtain ⟨a, ha, rfl⟩ := nI_of hx2
    rw [if_pos hx]
    refine ⟨_, _, _, rfl, by rw [if_pos hx, s2_ne (by omega), s3, ← s2], t, n, k, ns, C, Me, W, S, E, ?_⟩
    have hf : ∀ o j, ¬ ((o = 0 ∧ j = 15) ∨ (o = 128 ∧ j = 30)) → st2 (st2 M 0 15 (nI a)) 128 30 (nI a) o j = M o j := fun o j g => by
      rw [s2_at, if_neg (by omega), s2_at, if_neg (by omega)]
    exact ⟨IT_c (fun o j g => hf o j (by omega)) c1, IE_c (fun o j g => hf o j (by omega)) c2, IX_c (fun o j g => hf o j (by omega)) c3, IF_c (fun o j g => hf o j (by omega)) c4, ⟨a, ha, by rw [s2_ne (by omega), s2_eq], by rw [s2_eq]⟩, IB_c (fun o j g => hf o j (by omega)) c6, II_c (fun o j g => hf o j (by omega)) c7, IH_c (fun o j g => hf o j (by omega)) c8, IW_c (fun o j g => hf o j (by omega)) c9⟩
  · rw [if_neg hx]
    exact ⟨_, _, _, rfl, by rw [if_neg hx], h⟩
theorem op_feed {M : Mm} (x : Int32) (h : InvX M) : ∃ r M1 M2, f_X11_feed 0 x M = some (r, M1) ∧ f_X12_feed 128 x M1 = some (r, M2) ∧ InvX M2 := by
  rcases rng_cases 0 255 (by omega) (by omega) x with ⟨a, -, ha, rfl⟩ | hx
  · obtain ⟨t, n, k, ns, C, Me, W, S, E, c1, c2, ⟨len, tx, l1, l2, l3, l4⟩, c4, c5, c6, c7, c8, c9⟩ := id h
    unfold f_X11_feed f_X12_feed f_X7_add
    simp only [Lt_eq]
    rw [if_neg (nI_lt0 (by omega)), if_pos (show nI a ≤ (255 : Int32) from nI_le (b := 255) ha (by omega)), l2]
    by_cases hl : len = 240
    · subst hl
      rw [if_neg (show ¬ nI 240 < (240 : Int32) by decide), Bd_some]
      refine ⟨_, _, _, rfl, ?_, h⟩
      rw [show f_X12_in (nI a) (0 : Int32) (255 : Int32) = 1 from in_1 (lo := 0) (hi := 255) (by omega) ha (by omega), if_neg one_ne, if_pos (show M 128 0 = 240 from l3)]
    · rw [if_pos (show nI len < (240 : Int32) from nI_lt (b := 240) (by omega) (by omega)), Gd_t ((ib_nI (by omega)).mpr (by omega)), Bd_some, if_neg one_ne, ix_nI (by omega), nI_1]
      refine ⟨nI (len + 1), st2 (st2 M 35 0 (nI (len + 1))) 36 len (nI a), st2 (st2 (st2 (st2 M 35 0 (nI (len + 1))) 36 len (nI a)) 129 len (nI a)) 128 0 (nI (len + 1)), ?_, ?_, t, n, k, ns, C, Me, W, S, E, ?_⟩
      · show some (st2 (st2 M 35 0 (nI (len + 1))) 36 len (nI a) 35 0, _) = _
        rw [s2_ne (by omega), s2_eq]
      · rw [show f_X12_in (nI a) (0 : Int32) (255 : Int32) = 1 from in_1 (lo := 0) (hi := 255) (by omega) ha (by omega), if_neg one_ne, s2_ne (by omega), s2_ne (by omega), l3, if_neg (show ¬ nI len = (240 : Int32) from fun q => hl (nI_inj (b := 240) (by omega) (by omega) q)), Gd_t ((ib_nI (by omega)).mpr (by omega)), ix_nI (by omega)]
        have e1 : (st2 (st2 (st2 M 35 0 (nI (len + 1))) 36 len (nI a)) 129 len (nI a)) 128 0 = nI len := by rw [s2_ne (by omega), s2_ne (by omega), s2_ne (by omega), l3]
        rw [e1, nI_1, s2_eq]
      · have hf : ∀ o j, ¬ ((o = 35 ∧ j = 0) ∨ (o = 36 ∧ j = len) ∨ (o = 129 ∧ j = len) ∨ (o = 128 ∧ j = 0)) → st2 (st2 (st2 (st2 M 35 0 (nI (len + 1))) 36 len (nI a)) 129 len (nI a)) 128 0 (nI (len + 1)) o j = M o j := fun o j g => by
          rw [s2_at, if_neg (by omega), s2_at, if_neg (by omega), s2_at, if_neg (by omega), s2_at, if_neg (by omega)]
        refine ⟨IT_c (fun o j g => hf o j (by omega)) c1, IE_c (fun o j g => hf o j (by omega)) c2, ⟨len + 1, fun i => if i = len then a else tx i, by omega, ?_, ?_, fun i hi => ?_⟩, IF_c (fun o j g => hf o j (by omega)) c4, IS_c (fun o j g => hf o j (by omega)) c5, IB_c (fun o j g => hf o j (by omega)) c6, II_c (fun o j g => hf o j (by omega)) c7, IH_c (fun o j g => hf o j (by omega)) c8, IW_c (fun o j g => hf o j (by omega)) c9⟩
        · rw [s2_ne (by omega), s2_ne (by omega), s2_ne (by omega), s2_eq]
        · rw [s2_eq]
        · by_cases hi2 : i = len
          · subst hi2
            simp only [↓reduceIte]
            exact ⟨by omega, by rw [s2_ne (by omega), s2_ne (by omega), s2_eq], by rw [s2_ne (by omega), s2_eq]⟩
          · simp only [if_neg hi2]
            exact ⟨(l4 i (by omega)).1, by rw [hf _ _ (by omega)]; exact (l4 i (by omega)).2.1, by rw [hf _ _ (by omega)]; exact (l4 i (by omega)).2.2⟩
  · unfold f_X11_feed f_X12_feed
    have e0 : f_X12_in x (0 : Int32) (255 : Int32) = 0 := in_0 (lo := 0) (hi := 255) hx
    rcases hx with hx | ⟨h1, h2, h3⟩
    · rw [if_pos (show x < 0 from hx)]
      exact ⟨_, _, _, rfl, by rw [e0, if_pos rfl], h⟩
    · rw [if_neg (show ¬ x < 0 from h1), if_neg (show ¬ x ≤ (255 : Int32) from h3)]
      exact ⟨_, _, _, rfl, by rw [e0, if_pos rfl], h⟩
