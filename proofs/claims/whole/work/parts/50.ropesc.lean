/-! the class's sharing of ropes -/
def tzN (s : Nat) : Nat := if s.testBit 0 then 0 else if s.testBit 1 then 1 else if s.testBit 2 then 2 else if s.testBit 3 then 3 else if s.testBit 4 then 4 else 5
theorem tz_spec : ∀ s, s < 64 → ¬ s = 0 → f_J6_numberOfTrailingZeros_0f7a4 (nI s) = nI (tzN s) := by decide +kernel
theorem tz_bit : ∀ s, s < 64 → ¬ s = 0 → s.testBit (tzN s) = true := by decide +kernel
def tzC (s b : Nat) : Bool := !(Nat.blt b (tzN s)) || !(s.testBit b)
theorem tz_min_d : ∀ s, s < 64 → ∀ b, b < 6 → tzC s b = true := by decide +kernel
theorem tz_le (s : Nat) : tzN s < 6 := by unfold tzN; split; omega; split; omega; split; omega; split; omega; split <;> omega
theorem tz_min {s b : Nat} (hs : s < 64) (hb : b < tzN s) : ¬ s.testBit b = true := by
  have h6 := tz_le s
  have := tz_min_d s hs b (by omega)
  unfold tzC at this
  rw [show Nat.blt b (tzN s) = true by rw [Nat.blt_eq]; exact hb] at this
  simpa using this
theorem msk_spec : ∀ s, s < 64 → ∀ b, b < 6 → ((nI s &&& ((sl (1 : Int32) (nI b)) ^^^ (-1 : Int32))) &&& ((nI 64) - (1 : Int32))) = nI (s &&& (63 ^^^ 2 ^ b)) := by decide +kernel
theorem bit_ns {s b ns : Nat} (hs : s < 2 ^ ns) (h : s.testBit b = true) : b < ns := by
  by_cases e : b < ns
  · exact e
  · have := Nat.testBit_lt_two_pow (x := s) (i := b) (Nat.lt_of_lt_of_le hs (Nat.pow_le_pow_right (by omega) (by omega)))
    rw [this] at h
    exact absurd h (by simp)
theorem clr_less {s b : Nat} (hs : s < 64) (hb : b < 6) (h : s.testBit b = true) : clr s b < s := by
  have h1 : clr s b ≤ s := Nat.and_le_left
  by_cases e : clr s b = s
  · have h2 := (clr_bit (d := b) hs hb).mp (by rw [e]; exact h)
    exact absurd rfl h2.2
  · omega
theorem cnt_zero : ∀ ns, ns < 7 → cntI 0 ns = ns := by decide +kernel
theorem leastFrom_spec {t n k ns C r b s : Nat} {Me W S T : Nat → Nat} {M : Mm} (hT : TW t n k ns C Me W S M) (hV : TV n k ns C Me W S) (hr : r < ns) (hb : b < ns) (hs : s < 64) (hM : M 113 (clr s b) = nI (T (clr s b))) : f_X4_leastFrom 112 (nI r) (nI b) (nI s) t M = some (nI (W b - S r + T (clr s b))) := by
  have hb2 := hV.1
  have hc : clr s b < 64 := clr_lt hs
  unfold f_X4_leastFrom
  simp only [Lt_eq]
  rw [excess_spec hT hV hr (by omega), Bd_some]
  have e : ((nI s &&& ((sl (1 : Int32) (nI b)) ^^^ (-1 : Int32))) &&& ((nI 64) - (1 : Int32))) = nI (clr s b) := msk_spec s hs b (by omega)
  simp only [e]
  rw [Gd_t ((ib_nI (by omega)).mpr hc), ix_nI (by omega), hM, nI_add]
theorem firstBell_spec {t n k ns C r s : Nat} {Me W S T : Nat → Nat} {M : Mm} (hT : TW t n k ns C Me W S M) (hV : TV n k ns C Me W S) (hr : r < ns) (hs0 : 0 < s) (hs : s < 2 ^ ns) (hM : ∀ b, b < ns → s.testBit b = true → M 113 (clr s b) = nI (T (clr s b)) ∧ T (clr s b) < 100000) : ∃ g, f_X4_firstBell 112 t (nI r) (nI s) M = some (nI g) ∧ g < ns ∧ s.testBit g = true ∧ (∀ b, b < ns → s.testBit b = true → W g - S r + T (clr s g) ≤ W b - S r + T (clr s b)) ∧ ∀ b, b < g → s.testBit b = true → W g - S r + T (clr s g) < W b - S r + T (clr s b) := by
  have hb2 := hV.1
  have hns : ns ≤ 6 := by omega
  have h64 : s < 64 := Nat.lt_of_lt_of_le hs (p2_64 hns)
  have t2 : M t 2 = nI ns := hT.2.2.2.1
  have hW : ∀ b, b < ns → W b < 32 := fun b hb => hV.2.2.2.2.1 b (by omega)
  have z1 := tz_bit s h64 (by omega)
  have z2 : tzN s < ns := bit_ns hs z1
  have key := Lp_inv (f := b_X4_firstBell_12 112 t (nI r) (nI s) M) (fun x => ∃ b g, g < b ∧ b ≤ ns ∧ x.1 = nI g ∧ x.2 = nI b ∧ s.testBit g = true ∧ (∀ d, d < b → s.testBit d = true → W g - S r + T (clr s g) ≤ W d - S r + T (clr s d)) ∧ ∀ d, d < g → s.testBit d = true → W g - S r + T (clr s g) < W d - S r + T (clr s d)) (fun x => ns - x.2.toNatClampNeg) (fun y => ∃ g, y = nI g ∧ g < ns ∧ s.testBit g = true ∧ (∀ b, b < ns → s.testBit b = true → W g - S r + T (clr s g) ≤ W b - S r + T (clr s b)) ∧ ∀ b, b < g → s.testBit b = true → W g - S r + T (clr s g) < W b - S r + T (clr s b)) (fun x hx => by
    obtain ⟨b, g, h1, h2, h3, h4, h5, h6, h7⟩ := hx
    obtain ⟨x1, x2⟩ := x
    simp only at h3 h4
    subst h3
    subst h4
    by_cases hin : b = ns
    · subst hin
      exact Or.inr ⟨nI g, by unfold b_X4_firstBell_12; rw [if_pos (show M t 2 ≤ nI b by rw [t2]; exact nI_le (Nat.le_refl _) (by omega))], g, rfl, h1, h5, h6, h7⟩
    · have hbl : b < ns := by omega
      have hmu : ns - (nI (b + 1)).toNatClampNeg < ns - (nI b).toNatClampNeg := by
        rw [nI_clamp (by omega), nI_clamp (by omega)]
        omega
      have c1 : ¬ M t 2 ≤ nI b := by rw [t2]; exact nI_ge hbl (by omega)
      by_cases hbit : s.testBit b = true
      · have lb := hM b hbl hbit
        have lg := hM g (by omega) h5
        have wb := hW b hbl
        have wg := hW g (by omega)
        have e1 := leastFrom_spec hT hV hr hbl h64 lb.1
        have e2 := leastFrom_spec hT hV hr (show g < ns by omega) h64 lg.1
        have hj : (if ((sr (nI s) (nI b)) &&& (1 : Int32)) = 0 then (0 : Int32) else (1 : Int32)) = 1 := by
          rw [bit_nI (by omega) (by omega), if_pos hbit, if_neg one_ne]
        by_cases hlt : W b - S r + T (clr s b) < W g - S r + T (clr s g)
        · refine Or.inl ⟨(nI b, nI (b + 1)), ?_, ⟨b + 1, b, by omega, by omega, rfl, rfl, hbit, fun d hd hdb => ?_, fun d hd hdb => ?_⟩, hmu⟩
          · unfold b_X4_firstBell_12
            simp only [Lt_eq]
            rw [if_neg c1, hj, if_neg one_ne, e1, Bd_some, e2, Bd_some, if_neg (nI_ge hlt (by omega)), Bd_some, nI_1]
          · by_cases e : d = b
            · rw [e]; exact Nat.le_refl _
            · have := h6 d (by omega) hdb
              omega
          · have := h6 d hd hdb
            omega
        · refine Or.inl ⟨(nI g, nI (b + 1)), ?_, ⟨b + 1, g, by omega, by omega, rfl, rfl, h5, fun d hd hdb => ?_, h7⟩, hmu⟩
          · unfold b_X4_firstBell_12
            simp only [Lt_eq]
            rw [if_neg c1, hj, if_neg one_ne, e1, Bd_some, e2, Bd_some, if_pos (nI_le (show W g - S r + T (clr s g) ≤ W b - S r + T (clr s b) by omega) (by omega)), Bd_some, nI_1]
          · by_cases e : d = b
            · rw [e]; omega
            · exact h6 d (by omega) hdb
      · have hj : (if ((sr (nI s) (nI b)) &&& (1 : Int32)) = 0 then (0 : Int32) else (1 : Int32)) = 0 := by
          rw [bit_nI (by omega) (by omega), if_neg hbit, if_pos rfl]
        refine Or.inl ⟨(nI g, nI (b + 1)), ?_, ⟨b + 1, g, by omega, by omega, rfl, rfl, h5, fun d hd hdb => ?_, h7⟩, hmu⟩
        · unfold b_X4_firstBell_12
          simp only [Lt_eq]
          rw [if_neg c1, hj, if_pos rfl, Bd_some, nI_1]
        · by_cases e : d = b
          · rw [e] at hdb; exact absurd hdb hbit
          · exact h6 d (by omega) hdb) 100000 (nI (tzN s), nI (tzN s + 1)) ⟨tzN s + 1, tzN s, by omega, by omega, rfl, rfl, z1, fun d hd hdb => by
      by_cases e : d = tzN s
      · rw [e]; exact Nat.le_refl _
      · exact absurd hdb (tz_min h64 (by omega)), fun d hd hdb => absurd hdb (tz_min h64 hd)⟩ (by show ns - _ < _; omega)
  obtain ⟨y, k1, g, rfl, k3, k4, k5, k6⟩ := key
  refine ⟨g, ?_, k3, k4, k5, k6⟩
  unfold f_X4_firstBell
  simp only [Lt_eq]
  rw [tz_spec s h64 (by omega), nI_1, k1, Bd_some]
theorem cnt_ns {s b ns : Nat} (hns : ns ≤ 6) (hs : s < 64) (hb : b < ns) (h : s.testBit b = true) : cntI s ns < ns := by
  have h1 := cnt_clr hns hs hb h
  have h2 := cntI_le (clr s b) ns
  omega
theorem share9_spec {t n k ns C : Nat} {Me W S : Nat → Nat} {M : Mm} (hT : TW t n k ns C Me W S M) (hV : TV n k ns C Me W S) : ∃ (T : Nat → Nat) (M' : Mm), Lp (b_X4_share_9 112 t) 100000 ((1 : Int32), st2 M 113 0 (0 : Int32)) = some M' ∧ TBl ns (fun r b => W b - S r) T ∧ (∀ s, s < 2 ^ ns → M' 113 s = nI (T s) ∧ T s ≤ 31 * s) ∧ ∀ o, o ≠ 113 → M' o = M o := by
  have hb2 := hV.1
  have hns : ns ≤ 6 := by omega
  have h64 := p2_64 hns
  have hW : ∀ b, b < ns → W b < 32 := fun b hb => hV.2.2.2.2.1 b (by omega)
  have hpos : 0 < 2 ^ ns := Nat.pow_pos (by omega)
  have t2 : M t 2 = nI ns := hT.2.2.2.1
  have ht := hT.1
  have key := Lp_inv (f := b_X4_share_9 112 t) (fun x => ∃ (i : Nat) (T : Nat → Nat), 1 ≤ i ∧ i ≤ 2 ^ ns ∧ x.1 = nI i ∧ T 0 = 0 ∧ (∀ s, 0 < s → s < i → (∀ b, b < ns → s.testBit b = true → T s ≤ W b - S (cntI s ns) + T (clr s b)) ∧ ∃ b, b < ns ∧ s.testBit b = true ∧ T s = W b - S (cntI s ns) + T (clr s b)) ∧ (∀ s, s < i → x.2 113 s = nI (T s) ∧ T s ≤ 31 * s) ∧ ∀ o, o ≠ 113 → x.2 o = M o) (fun x => 64 - x.1.toNatClampNeg) (fun Mx => ∃ T : Nat → Nat, TBl ns (fun r b => W b - S r) T ∧ (∀ s, s < 2 ^ ns → Mx 113 s = nI (T s) ∧ T s ≤ 31 * s) ∧ ∀ o, o ≠ 113 → Mx o = M o) (fun x hx => by
    obtain ⟨i, T, i1, i2, h3, h4, h5, h6, hF⟩ := hx
    obtain ⟨x1, Mi⟩ := x
    simp only at h3 h6 hF
    subst h3
    have f2 : Mi t 2 = nI ns := by rw [hF t (by omega)]; exact t2
    have hsl : sl (1 : Int32) (Mi t 2) = nI (2 ^ ns) := by rw [f2]; exact sl1 (by omega)
    by_cases hin : i = 2 ^ ns
    · refine Or.inr ⟨Mi, by unfold b_X4_share_9; rw [if_pos (show sl (1 : Int32) (Mi t 2) ≤ nI i by rw [hsl, hin]; exact nI_le (Nat.le_refl _) (by omega))], T, ⟨h4, fun s s0 s1 => h5 s s0 (by omega)⟩, fun s hs => h6 s (by omega), hF⟩
    · have hil : i < 2 ^ ns := by omega
      have hi64 : i < 64 := by omega
      have hTi : TW t n k ns C Me W S Mi := TW_c hV (fun o ho => hF o (by omega)) hT
      obtain ⟨b0, b1, b2⟩ := some_bit i hi64 (by omega)
      have hr := cnt_ns hns hi64 (bit_ns hil b2) b2
      have hcl : ∀ b, b < ns → i.testBit b = true → clr i b < i := fun b hb hbi => clr_less hi64 (by omega) hbi
      obtain ⟨g, g1, g2, g3, g4, g5⟩ := firstBell_spec (T := T) hTi hV hr (by omega) hil (fun b hb hbi => by
        have := hcl b hb hbi
        have := h6 (clr i b) this
        exact ⟨this.1, by have := this.2; omega⟩)
      have hg := hcl g g2 g3
      have hlf := leastFrom_spec (T := T) hTi hV hr g2 hi64 (h6 _ hg).1
      have hwg := hW g g2
      have hTg := (h6 _ hg).2
      refine Or.inl ⟨(nI (i + 1), st2 Mi 113 i (nI (W g - S (cntI i ns) + T (clr i g)))), ?_, ⟨i + 1, fun s => if s = i then W g - S (cntI i ns) + T (clr i g) else T s, by omega, by omega, rfl, ?_, fun s s0 s1 => ?_, fun s hs => ?_, fun o ho => (s2_ne ho).trans (hF o ho)⟩, ?_⟩
      · unfold b_X4_share_9
        simp only [Lt_eq]
        rw [if_neg (show ¬ sl (1 : Int32) (Mi t 2) ≤ nI i by rw [hsl]; exact nI_ge hil (by omega)), if_neg (nI_ge (show i < 64 by omega) (by omega)), f2, still_spec ns (by omega) i hi64 hil, g1, Bd_some, hlf, Bd_some, Gd_t ((ib_nI (by omega)).mpr hi64), ix_nI (by omega), nI_1]
      · show (if 0 = i then _ else T 0) = 0
        rw [if_neg (by omega), h4]
      · by_cases e : s = i
        · subst e
          have hif : ∀ b, b < ns → s.testBit b = true → (if clr s b = s then W g - S (cntI s ns) + T (clr s g) else T (clr s b)) = T (clr s b) := fun b hb hbi => by
            rw [if_neg (by have := hcl b hb hbi; omega)]
          constructor
          · intro b hb hbi
            show (if s = s then W g - S (cntI s ns) + T (clr s g) else T s) ≤ W b - S (cntI s ns) + (if clr s b = s then W g - S (cntI s ns) + T (clr s g) else T (clr s b))
            rw [if_pos rfl, hif b hb hbi]
            exact g4 b hb hbi
          · refine ⟨g, g2, g3, ?_⟩
            show (if s = s then W g - S (cntI s ns) + T (clr s g) else T s) = W g - S (cntI s ns) + (if clr s g = s then W g - S (cntI s ns) + T (clr s g) else T (clr s g))
            rw [if_pos rfl, hif g g2 g3]
        · obtain ⟨q1, b, q2, q3, q4⟩ := h5 s s0 (by omega)
          have hif : ∀ b, (if clr s b = i then W g - S (cntI i ns) + T (clr i g) else T (clr s b)) = T (clr s b) := fun b => by
            have : clr s b ≤ s := Nat.and_le_left
            rw [if_neg (by omega)]
          constructor
          · intro b hb hbi
            show (if s = i then _ else T s) ≤ W b - S (cntI s ns) + (if clr s b = i then W g - S (cntI i ns) + T (clr i g) else T (clr s b))
            rw [if_neg e, hif b]
            exact q1 b hb hbi
          · refine ⟨b, q2, q3, ?_⟩
            show (if s = i then _ else T s) = W b - S (cntI s ns) + (if clr s b = i then W g - S (cntI i ns) + T (clr i g) else T (clr s b))
            rw [if_neg e, hif b]
            exact q4
      · show st2 Mi 113 i (nI (W g - S (cntI i ns) + T (clr i g))) 113 s = nI (if s = i then W g - S (cntI i ns) + T (clr i g) else T s) ∧ (if s = i then W g - S (cntI i ns) + T (clr i g) else T s) ≤ 31 * s
        rw [s2_at]
        by_cases e : s = i
        · rw [if_pos ⟨rfl, e⟩, if_pos e]
          exact ⟨rfl, by rw [e]; omega⟩
        · rw [if_neg (by omega), if_neg e]
          exact h6 s (by omega)
      · show 64 - (nI (i + 1)).toNatClampNeg < 64 - (nI i).toNatClampNeg
        rw [nI_clamp (by omega), nI_clamp (by omega)]
        omega) 100000 ((1 : Int32), st2 M 113 0 (0 : Int32)) ⟨1, fun _ => 0, by omega, by omega, rfl, rfl, fun s s0 s1 => absurd s1 (by omega), fun s hs => ⟨by show st2 M 113 0 0 113 s = nI 0; rw [show s = 0 by omega, s2_eq]; rfl, by show 0 ≤ _; omega⟩, fun o ho => s2_ne ho⟩ (by show 64 - _ < _; omega)
  obtain ⟨M', k1, T, k2, k3, k4⟩ := key
  exact ⟨T, M', k1, k2, k3, k4⟩
theorem share_spec {t n k ns C : Nat} {Me W S : Nat → Nat} {M : Mm} (hT : TW t n k ns C Me W S M) (hV : TV n k ns C Me W S) : ∃ (T g sq : Nat → Nat) (M' : Mm), f_X4_share 112 t M = some M' ∧ TBl ns (fun r b => W b - S r) T ∧ GRd ns (fun r b => W b - S r) T g sq ∧ M' 113 (2 ^ ns - 1) = nI (T (2 ^ ns - 1)) ∧ T (2 ^ ns - 1) < 2000 ∧ (∀ r, r < ns → M' 114 r = nI (g r)) ∧ ∀ o, o ≠ 113 → o ≠ 114 → M' o = M o := by
  have hb2 := hV.1
  have hns : ns ≤ 6 := by omega
  have h64 := p2_64 hns
  have hpos : 0 < 2 ^ ns := Nat.pow_pos (by omega)
  have t2 : M t 2 = nI ns := hT.2.2.2.1
  have ht := hT.1
  obtain ⟨T, M1, g1, hTB, g3, g4⟩ := share9_spec hT hV
  have hall : f_X4_allBells t M1 = nI (2 ^ ns - 1) := by
    unfold f_X4_allBells
    rw [g4 t (by omega), t2, if_neg (show ¬ (6 : Int32) < nI ns from nI_nlt (a := 6) (by omega) (by omega)), all_spec ns (by omega)]
  have key := Lp_inv (f := b_X4_share_71 112 t) (fun x => ∃ (r : Nat) (g sq : Nat → Nat), r ≤ ns ∧ x.1 = nI (sq r) ∧ x.2.1 = nI r ∧ sq 0 = 2 ^ ns - 1 ∧ sq r < 2 ^ ns ∧ cntI (sq r) ns = r ∧ (∀ q, q < r → g q < ns ∧ (sq q).testBit (g q) = true ∧ sq (q + 1) = clr (sq q) (g q) ∧ (∀ b, b < ns → (sq q).testBit b = true → W (g q) - S q + T (clr (sq q) (g q)) ≤ W b - S q + T (clr (sq q) b)) ∧ ∀ b, b < g q → (sq q).testBit b = true → W (g q) - S q + T (clr (sq q) (g q)) < W b - S q + T (clr (sq q) b)) ∧ (∀ q, q < r → x.2.2 114 q = nI (g q)) ∧ ∀ o, o ≠ 114 → x.2.2 o = M1 o) (fun x => ns - x.2.1.toNatClampNeg) (fun Mx => ∃ g sq : Nat → Nat, GRd ns (fun r b => W b - S r) T g sq ∧ (∀ r, r < ns → Mx 114 r = nI (g r)) ∧ ∀ o, o ≠ 114 → Mx o = M1 o) (fun x hx => by
    obtain ⟨r, g, sq, r1, h1, h2, h3, h4, h5, h6, h7, hF⟩ := hx
    obtain ⟨x1, x2, Mi⟩ := x
    simp only at h1 h2 h7 hF
    subst h1
    subst h2
    have f2 : Mi t 2 = nI ns := by rw [hF t (by omega), g4 t (by omega)]; exact t2
    by_cases hin : r = ns
    · subst hin
      exact Or.inr ⟨Mi, by unfold b_X4_share_71; rw [if_pos (show Mi t 2 ≤ nI r by rw [f2]; exact nI_le (Nat.le_refl _) (by omega))], g, sq, ⟨h3, h6⟩, h7, hF⟩
    · have hrl : r < ns := by omega
      have hTi : TW t n k ns C Me W S Mi := TW_c hV (fun o ho => by rw [hF o (by omega), g4 o (by omega)]) hT
      have hs0 : 0 < sq r := by
        by_cases e : sq r = 0
        · rw [e, cnt_zero ns (by omega)] at h5; omega
        · omega
      obtain ⟨b, b1, b2, b3, b4, b5⟩ := firstBell_spec (T := T) hTi hV hrl hs0 h4 (fun b hb hbi => by
        have hl : clr (sq r) b < 2 ^ ns := clr_lt h4
        have := g3 _ hl
        exact ⟨by rw [hF 113 (by omega)]; exact this.1, by have := this.2; omega⟩)
      have hs64 : sq r < 64 := by omega
      have hgq : ∀ q, q < r → (if q = r then b else g q) = g q := fun q hq => by rw [if_neg (by omega)]
      have hsq : ∀ q, q ≤ r → (if q = r + 1 then clr (sq r) b else sq q) = sq q := fun q hq => by rw [if_neg (by omega)]
      refine Or.inl ⟨(nI (clr (sq r) b), nI (r + 1), st2 Mi 114 r (nI b)), ?_, ⟨r + 1, fun q => if q = r then b else g q, fun q => if q = r + 1 then clr (sq r) b else sq q, by omega, ?_, rfl, ?_, ?_, ?_, fun q hq => ?_, fun q hq => ?_, fun o ho => (s2_ne ho).trans (hF o ho)⟩, ?_⟩
      · unfold b_X4_share_71
        simp only [Lt_eq]
        rw [if_neg (show ¬ Mi t 2 ≤ nI r by rw [f2]; exact nI_ge hrl (by omega)), if_neg (show ¬ (6 : Int32) ≤ nI r from nI_ge (b := 6) (by omega) (by omega)), b1, Bd_some, Gd_t ((ib_nI (by omega)).mpr (by omega)), Gd_t ((ib_nI (by omega)).mpr (by omega)), ix_nI (by omega), s2_eq, clr_spec _ hs64 b (by omega), nI_1]
        rfl
      · show nI (clr (sq r) b) = nI (if r + 1 = r + 1 then clr (sq r) b else sq (r + 1))
        rw [if_pos rfl]
      · show (if 0 = r + 1 then _ else sq 0) = _
        rw [if_neg (by omega), h3]
      · show (if r + 1 = r + 1 then clr (sq r) b else sq (r + 1)) < _
        rw [if_pos rfl]; exact clr_lt h4
      · show cntI (if r + 1 = r + 1 then clr (sq r) b else sq (r + 1)) ns = _
        rw [if_pos rfl, cnt_clr hns hs64 b2 b3, h5]
      · dsimp only
        rw [hsq q (by omega)]
        by_cases e : q = r
        · have hb' : (if q = r then b else g q) = b := if_pos e
          rw [hb', if_pos (show q + 1 = r + 1 by omega), e]
          exact ⟨b2, b3, rfl, b4, b5⟩
        · rw [hgq q (by omega), if_neg (show ¬ q + 1 = r + 1 by omega)]
          exact h6 q (by omega)
      · show st2 Mi 114 r (nI b) 114 q = nI (if q = r then b else g q)
        rw [s2_at]
        by_cases e : q = r
        · rw [if_pos ⟨rfl, e⟩, if_pos e]
        · rw [if_neg (by omega), if_neg e]
          exact h7 q (by omega)
      · show ns - (nI (r + 1)).toNatClampNeg < ns - (nI r).toNatClampNeg
        rw [nI_clamp (by omega), nI_clamp (by omega)]
        omega) 100000 (nI (2 ^ ns - 1), (0 : Int32), M1) ⟨0, fun _ => 0, fun _ => 2 ^ ns - 1, by omega, rfl, rfl, rfl, by show 2 ^ ns - 1 < 2 ^ ns; omega, cnt_full ns (by omega), fun q hq => absurd hq (by omega), fun q hq => absurd hq (by omega), fun _ _ => rfl⟩ (by show ns - _ < _; omega)
  obtain ⟨M2, k1, g, sq, k2, k3, k4⟩ := key
  have hfl := g3 (2 ^ ns - 1) (by omega)
  refine ⟨T, g, sq, M2, ?_, hTB, k2, by rw [k4 113 (by omega)]; exact hfl.1, by have := hfl.2; omega, k3, fun o d1 d2 => by rw [k4 o d2, g4 o d1]⟩
  unfold f_X4_share
  simp only [Lt_eq]
  rw [show ix (0 : Int32) = 0 by decide, g1, Bd_some, hall, k1, Bd_some]
