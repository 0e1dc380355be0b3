theorem search_spec {t n k ns C L : Nat} {Me W S : Nat → Nat} {M : Mm} (hV : TV n k ns C Me W S) (hn : 0 < n) (hT : TW t n k ns C Me W S M) (hL : L ≤ 8) (hL1 : 1 ≤ L) : ∃ M', f_X8_search 111 t 109 (nI L) M = some M' ∧ Rep L (tchB n k C Me L) M' ∧ ∀ o, o ≠ 110 → o ≠ 111 → M' o = M o := by
  have hb := hV.1
  have ht := hT.1
  unfold f_X8_search
  simp only [Lt_eq]
  rw [if_neg (show ¬ (8 : Int32) < nI L from nI_nlt (a := 8) hL (by omega))]
  rw [show st2 M 111 2 (nI L) t 0 = nI n by rw [s2_ne (by omega)]; exact hT.2.1, rounds_spec n (by omega), Bd_some]
  generalize hM7 : st2 (st2 (st2 (st2 M 111 2 (nI L)) 111 3 (nI (enc n (fun p => p)))) 111 0 (0 : Int32)) 111 1 (-1 : Int32) = M7
  have f7 : ∀ o, o ≠ 111 → M7 o = M o := fun o ho => by rw [← hM7, s2_ne ho, s2_ne ho, s2_ne ho, s2_ne ho]
  obtain ⟨M8, g1, g2, g3⟩ := seen_clear (M := M7)
  have hT8 : TC t n k ns C L Me W S M8 := by
    refine ⟨TW_c hV (fun o ho => by rw [g3 o (by omega), f7 o (by omega)]) hT, ?_, ?_⟩
    · rw [g3 111 (by omega), ← hM7, s2_nk (by omega), s2_nk (by omega), s2_nk (by omega), s2_eq]
    · rw [g3 111 (by omega), ← hM7, s2_nk (by omega), s2_nk (by omega), s2_eq]
  have hR8 : Rep L (fun _ => false) M8 := by
    have hc0 : cntL (fun _ => false) (2 ^ L) = 0 := (cntL_0 _).mpr (fun i _ => by simp)
    have hf0 : fstN (fun _ => false) (2 ^ L) = none := (fstN_none _).mpr (fun i _ => by simp)
    refine ⟨?_, ?_⟩
    · rw [g3 111 (by omega), ← hM7, s2_nk (by omega), s2_eq, hc0]; rfl
    · rw [g3 111 (by omega), ← hM7, s2_eq, hf0]; rfl
  have h0 : (0 : Nat) < 2 ^ 0 := by decide
  obtain ⟨M9, r1, r2, r3, r4⟩ := goT (t := t) hV hn hL (L - 1) 9 0 (by omega) (by omega) 0 (fun _ => false) M8 h0 hT8 hR8 (SS_iff (fun c _ => ⟨fun q => q.elim, fun ⟨i, hi, _⟩ => by rw [Nat.zero_mul] at hi; omega⟩) g2) (fun j hj => by rw [Nat.zero_mul] at hj; omega) (fun X _ _ => by simp)
  refine ⟨M9, ?_, Rep_congr (fun X hX => ?_) r2, fun o d1 d2 => by rw [show M9 o = M8 o from funext fun j => r4 o j (by omega), g3 o d1, f7 o d2]⟩
  · rw [g1, Bd_some, hT8.2.2]
    have e : cdA n k C Me 0 (0 * k) = enc n (fun p => p) := by rw [Nat.zero_mul]; rfl
    rw [e] at r1
    rw [show f_X8_goOn 9 111 t 109 (nI (enc n (fun p => p))) (0 : Int32) (0 : Int32) M8 = some M9 from r1, Bd_some]
  · show (false || ((X % 2 ^ 0 == 0) && tchB n k C Me L X)) = tchB n k C Me L X
    rw [Nat.pow_zero, Nat.mod_one]
    simp
/-! the reference: each set tried -/
def cbA (k A j : Nat) : Nat := if j % k = k - 1 ∧ A.testBit (j / k) = true then 1 else 0
def tXA (n k ns C : Nat) (Me W S E : Nat → Nat) (A : Nat) : Nat → Nat → Nat
  | 0 => rnE E
  | j + 1 => ringE n k ns C Me W S (up1 (tXA n k ns C Me W S E A j) 2 (cbA k A j))
theorem EV_rn {n k ns : Nat} {E : Nat → Nat} (hn : n ≤ 6) (hns : ns ≤ 6) (h : EV n k ns E) : EV n k ns (rnE E) := by
  obtain ⟨h0, h1, h2, h3, h4, h5, h6, h7, h8, h9⟩ := h
  have o : ∀ j, j = 0 ∨ j = 3 ∨ j = 4 ∨ 11 ≤ j → rnE E j = E j := fun j hj => by
    unfold rnE; rw [if_neg (by omega), if_neg (by omega)]
  have r : ∀ p, p < n → rnE E (5 + p) = p := fun p hp => rnE_row hn hp
  exact ⟨by rw [o 0 (by omega)]; exact h0, by show 0 ≤ _; omega, by show 0 < 2; omega, by rw [o 3 (by omega)]; exact h3, by rw [o 4 (by omega)]; exact h4, fun p hp => by rw [r p hp]; exact hp, fun p q hp hq => by rw [r p hp, r q hq]; exact id, fun r hr => by rw [o _ (by omega)]; exact h7 r hr, fun r q hr hq => by rw [o _ (by omega), o _ (by omega)]; exact h8 r q hr hq, fun r hr => by rw [o _ (by omega)]; exact h9 r hr⟩
theorem EV_up2 {n k ns v : Nat} {E : Nat → Nat} (hv : v < 2) (h : EV n k ns E) : EV n k ns (up1 E 2 v) := by
  obtain ⟨h0, h1, h2, h3, h4, h5, h6, h7, h8, h9⟩ := h
  have o : ∀ j, j ≠ 2 → up1 E 2 v j = E j := fun j hj => up1_o hj
  exact ⟨by rw [o 0 (by omega)]; exact h0, by rw [o 0 (by omega), o 1 (by omega)]; exact h1, by rw [up1_s]; exact hv, by rw [o 3 (by omega)]; exact h3, by rw [o 4 (by omega)]; exact h4, fun p hp => by rw [o _ (by omega)]; exact h5 p hp, fun p q hp hq => by rw [o _ (by omega), o _ (by omega)]; exact h6 p q hp hq, fun r hr => by rw [o _ (by omega)]; exact h7 r hr, fun r q hr hq => by rw [o _ (by omega), o _ (by omega)]; exact h8 r q hr hq, fun r hr => by rw [o _ (by omega)]; exact h9 r hr⟩
theorem cbA_lt (k A j : Nat) : cbA k A j < 2 := by unfold cbA; split <;> omega
theorem tXA_01 {n k ns C A : Nat} {Me W S E : Nat → Nat} : ∀ j, tXA n k ns C Me W S E A j 0 = E 0 + j ∧ tXA n k ns C Me W S E A j 1 = j
  | 0 => ⟨rfl, rfl⟩
  | j + 1 => by
    have ih := tXA_01 (n := n) (k := k) (ns := ns) (C := C) (A := A) (Me := Me) (W := W) (S := S) (E := E) j
    constructor
    · show ringE n k ns C Me W S (up1 (tXA n k ns C Me W S E A j) 2 (cbA k A j)) 0 = _
      rw [ringE_0, up1_o (by omega), ih.1]; omega
    · show ringE n k ns C Me W S (up1 (tXA n k ns C Me W S E A j) 2 (cbA k A j)) 1 = _
      rw [ringE_1, up1_o (by omega), ih.2]
theorem EV_tXA {n k ns C A : Nat} {Me W S E : Nat → Nat} (hV : TV n k ns C Me W S) (hn : 0 < n) (hE : EV n k ns E) : ∀ j, E 0 + j ≤ 12000 → EV n k ns (tXA n k ns C Me W S E A j)
  | 0, _ => EV_rn (by have := hV.1; omega) (by have := hV.1; omega) hE
  | j + 1, h => EV_ring hV hn (EV_up2 (cbA_lt k A j) (EV_tXA hV hn hE j (by omega))) (by rw [up1_o (by omega), (tXA_01 j).1]; omega)
theorem tXA_row {n k ns C A : Nat} {Me W S E : Nat → Nat} (hV : TV n k ns C Me W S) (hk : 0 < k) : ∀ j p, p < n → tXA n k ns C Me W S E A j (5 + p) = rwA k C Me A j p
  | 0, p, hp => rnE_row (by have := hV.1; omega) hp
  | j + 1, p, hp => by
    have hc : (if (up1 (tXA n k ns C Me W S E A j) 2 (cbA k A j)) 2 = 1 then C else Me ((up1 (tXA n k ns C Me W S E A j) 2 (cbA k A j)) 1 % k)) = chA k C Me A j := by
      rw [up1_s, up1_o (by omega), (tXA_01 j).2]
      unfold cbA chA
      by_cases e : j % k = k - 1 ∧ A.testBit (j / k) = true
      · rw [if_pos e, if_pos e, if_pos rfl]
      · rw [if_neg e, if_neg e, if_neg (by omega)]
    show ringE n k ns C Me W S (up1 (tXA n k ns C Me W S E A j) 2 (cbA k A j)) (5 + p) = rwA k C Me A j (pm (chA k C Me A j) p)
    rw [ringE_row (by have := hV.1; omega) hp, hc, up1_o (by omega)]
    exact tXA_row hV hk j _ (pm_lt (chA_isC hV hk) hp)
theorem isTouch_spec {n k ns C L A : Nat} {Me W S E : Nat → Nat} {M : Mm} (hV : TV n k ns C Me W S) (hn : 0 < n) (hM : MT n k ns C Me W S M) (hE : EQ n k ns E) (hA : AR E (M 136)) (hL : L ≤ 8) (hA8 : A < 256) : ∃ M', f_X12_isTouch 128 (nI L) (nI A) M = some ((if tchB n k C Me L A = true then (1 : Int32) else (0 : Int32)), M') ∧ ∀ o j, ¬ (o = 137 ∨ o = 144 ∨ (o = 128 ∧ j = 36)) → M' o j = M o j := by
  have hb := hV.1
  have hk : 0 < k := by omega
  have hn6 : n ≤ 6 := by omega
  have he0 := hE.2.1
  have hLk : L * k ≤ 96 := by
    have : L * k ≤ 8 * 12 := Nat.mul_le_mul hL (by omega)
    omega
  obtain ⟨Mb, b1, b2, b3⟩ := begin_spec hA
  obtain ⟨Mr, r1, r2, r3⟩ := toRounds_spec (o1 := 137) (by decide) b2
  generalize hcR : (fun j => figs n (rwA k C Me A j)) = cR
  have hR1 : ∀ j, figs n (rwA k C Me A j) = cR j := fun j => by rw [← hcR]
  have hRb : ∀ j, cR j < 2 ^ 31 := fun j => by
    rw [← hR1]
    have := figs_b hn6 (prm9 hn6 (prm_rwA (A := A) hV hk j))
    omega
  have hp0 : MPc cR 0 (st2 Mr 128 36 (0 : Int32)) := ⟨0, fun _ => 0, by omega, ⟨by rw [s2_eq]; rfl, fun i hi => absurd hi (by omega)⟩, fun a => ⟨fun ⟨j, hj, _⟩ => absurd hj (by omega), fun ⟨j, hj, _⟩ => absurd hj (by omega)⟩⟩
  have f3 : ∀ o j, ¬ (o = 137 ∨ o = 144 ∨ (o = 128 ∧ j = 36)) → st2 Mr 128 36 (0 : Int32) o j = M o j := fun o j q => by rw [s2_at, if_neg (by omega), r3 o (by omega), b3 o (by omega)]
  have hA3 : AR (rnE E) (st2 Mr 128 36 (0 : Int32) 137) := by rw [s2_ne (by omega)]; exact r2
  have key := Lp_inv (f := b_X12_isTouch_21 128 (nI L) (nI A)) (fun s => (∃ j, j ≤ L * k ∧ s.1 = 1 ∧ s.2.1 = nI j ∧ AR (tXA n k ns C Me W S E A j) (s.2.2 137) ∧ MPc cR j s.2.2 ∧ (∀ i, i < j → ∀ q, q < i → ¬ cR q = cR i) ∧ ∀ o j, ¬ (o = 137 ∨ o = 144 ∨ (o = 128 ∧ j = 36)) → s.2.2 o j = M o j) ∨ (s.1 = 0 ∧ (∃ i, i < L * k ∧ ∃ q, q < i ∧ cR q = cR i) ∧ ∀ o j, ¬ (o = 137 ∨ o = 144 ∨ (o = 128 ∧ j = 36)) → s.2.2 o j = M o j)) (fun s => if s.1 = 0 then 0 else (L * k - s.2.1.toNatClampNeg) + 1) (fun r => (r.1 = 1 ∧ (∀ i, i < L * k → ∀ q, q < i → ¬ cR q = cR i) ∧ AR (tXA n k ns C Me W S E A (L * k)) (r.2 137) ∧ ∀ o j, ¬ (o = 137 ∨ o = 144 ∨ (o = 128 ∧ j = 36)) → r.2 o j = M o j) ∨ (r.1 = 0 ∧ (∃ i, i < L * k ∧ ∃ q, q < i ∧ cR q = cR i) ∧ ∀ o j, ¬ (o = 137 ∨ o = 144 ∨ (o = 128 ∧ j = 36)) → r.2 o j = M o j)) (fun s hs => by
    obtain ⟨v, x, Mi⟩ := s
    rcases hs with ⟨j, hj, h1, h2, hAj, hP, hD, hF⟩ | ⟨h1, h2, hF⟩
    · simp only at h1 h2 hAj hP hF
      subst h1
      subst h2
      have f17 : Mi 128 17 = nI k := by rw [hF 128 17 (by omega)]; exact hM.2.1
      have hmul : nI L * Mi 128 17 = nI (L * k) := by rw [f17]; exact pk_mul L k
      by_cases hin : j = L * k
      · refine Or.inr ⟨(1, Mi), ?_, Or.inl ⟨rfl, by rw [← hin]; exact hD, by rw [← hin]; exact hAj, hF⟩⟩
        unfold b_X12_isTouch_21
        rw [if_pos (show nI L * Mi 128 17 ≤ nI j by rw [hmul, hin]; exact nI_le (Nat.le_refl _) (by omega))]
      · have hjl : j < L * k := by omega
        have hfig : f_X12_figuresOf 128 137 Mi = some (nI (cR j)) := by
          rw [figOf_spec (by rw [hF 128 16 (by omega)]; exact hM.1) hn6 (by decide) (fun p hp => hAj (5 + p) (by omega)), figs_congr n _ (rwA k C Me A j) (fun p hp => tXA_row hV hk j p hp), hR1]
        -- whatever isNew says, the walk goes on
        have hgo : ∀ (u : Int32) (M7 : Mm), f_X12_isNew 128 (nI (cR j)) Mi = some (u, M7) → (∀ o j, ¬ (o = 144 ∨ (o = 128 ∧ j = 36)) → M7 o j = Mi o j) → ∃ M9, b_X12_isTouch_21 128 (nI L) (nI A) ((1 : Int32), nI j, Mi) = some (.inl (u, nI (j + 1), M9)) ∧ AR (tXA n k ns C Me W S E A (j + 1)) (M9 137) ∧ (∀ o, o ≠ 137 → M9 o = M7 o) := fun u M7 hu hf7 => by
          have g17 : M7 128 17 = nI k := by rw [hf7 128 17 (by omega)]; exact f17
          have hj10 : ((if (rm (nI j) (M7 128 17)) = ((M7 128 17) - (1 : Int32)) then Gd (¬ (M7 128 17) = 0) ((if (f_X12_has (nI A) (nI j / (M7 128 17))) = 0 then some (0 : Int32) else some (1 : Int32))) else some (0 : Int32)) : Option (Int32)) = some (nI (cbA k A j)) := by
            have e1 : rm (nI j) (M7 128 17) = nI (j % k) := by rw [g17, rm_nI (by omega) hk (by omega)]
            have e2 : M7 128 17 - (1 : Int32) = nI (k - 1) := by rw [g17]; exact pk_sub (b := 1) (by omega)
            have e3 : nI j / M7 128 17 = nI (j / k) := by rw [g17]; exact pk_div (by omega) hk (by omega)
            have e4 : ¬ M7 128 17 = 0 := by rw [g17]; exact nI_ne0 hk (by omega)
            have hmk := Nat.mod_lt j hk
            have hjk : j / k ≤ j := Nat.div_le_self _ _
            have hjk8 : j / k < 8 := by
              apply Nat.div_lt_of_lt_mul
              have := Nat.mul_le_mul_right k hL
              rw [Nat.mul_comm k 8]
              omega
            unfold cbA
            rw [Gd_t e4, e3, has_nI (by omega) (by omega)]
            by_cases c1 : j % k = k - 1
            · rw [if_pos (show rm (nI j) (M7 128 17) = M7 128 17 - (1 : Int32) by rw [e1, e2, c1])]
              by_cases c2 : A.testBit (j / k) = true
              · rw [if_pos c2, if_neg one_ne, if_pos ⟨c1, c2⟩]; rfl
              · rw [if_neg c2, if_pos rfl, if_neg (fun z => c2 z.2)]; rfl
            · rw [if_neg (show ¬ rm (nI j) (M7 128 17) = M7 128 17 - (1 : Int32) by rw [e1, e2]; exact fun z => c1 (nI_inj (by omega) (by omega) z)), if_neg (fun z => c1 z.1)]; rfl
          have hA7 : AR (up1 (tXA n k ns C Me W S E A j) 2 (cbA k A j)) (st2 M7 137 2 (nI (cbA k A j)) 137) := AR_up (AR_c (fun i => hf7 137 i (by omega)) hAj)
          have hM7 : MT n k ns C Me W S (st2 M7 137 2 (nI (cbA k A j))) := MT_p (fun o i q => by rw [s2_ne (by omega), hf7 o i (by omega), hF o i (by omega)]) hM
          obtain ⟨M9, y1, y2, y3⟩ := goOn_spec (m := 1) hM7 hV hn (EV_up2 (cbA_lt k A j) (EV_tXA (A := A) hV hn hE.1 j (by omega))) (by rw [up1_o (by omega), (tXA_01 j).1]; omega) hA7
          refine ⟨M9, ?_, y2, fun o ho => by rw [y3 o ho, s2_ne ho]⟩
          have hg17 : ¬ M7 128 17 = 0 := by rw [g17]; exact nI_ne0 hk (by omega)
          unfold b_X12_isTouch_21
          simp only [Lt_eq]
          rw [if_neg (show ¬ nI L * Mi 128 17 ≤ nI j by rw [hmul]; exact nI_ge hjl (by omega)), if_neg one_ne, hfig, Bd_some, hu, Bd_some]
          dsimp only
          rw [Gd_t hg17, hj10, Bd_some, show ix (2 : Int32) = 2 by decide, show f_X12_goOn 128 (1 : Int32) (st2 M7 137 2 (nI (cbA k A j))) = some M9 from y1, Bd_some, nI_1]
        obtain ⟨a1, a2⟩ := addM (by omega) (hRb j) hP
        by_cases hnw : ∀ q, q < j → ¬ cR q = cR j
        · obtain ⟨M7, m1, m2, m3⟩ := a2 hnw
          obtain ⟨M9, w1, w2, w3⟩ := hgo 1 M7 m1 m3
          refine Or.inl ⟨_, w1, Or.inl ⟨j + 1, by omega, rfl, rfl, w2, ?_, fun i hi => ?_, fun o i q => ?_⟩, ?_⟩
          · obtain ⟨mm, v, e1, ⟨e2, e3⟩, e4⟩ := m2
            exact ⟨mm, v, e1, ⟨by show M9 128 36 = _; rw [w3 128 (by omega)]; exact e2, fun i hi => by show M9 144 i = _ ∧ _; rw [w3 144 (by omega)]; exact e3 i hi⟩, e4⟩
          · by_cases c : i = j
            · rw [c]; exact hnw
            · exact hD i (by omega)
          · show M9 o i = M o i
            rw [w3 o (by omega), m3 o i (by omega), hF o i q]
          · show (if (1 : Int32) = 0 then 0 else L * k - (nI (j + 1)).toNatClampNeg + 1) < (if (1 : Int32) = 0 then 0 else L * k - (nI j).toNatClampNeg + 1)
            rw [if_neg one_ne, if_neg one_ne, nI_clamp (by omega), nI_clamp (by omega)]
            omega
        · have hex : ∃ q, q < j ∧ cR q = cR j := by
            apply Classical.byContradiction
            intro hno
            exact hnw (fun q hq z => hno ⟨q, hq, z⟩)
          obtain ⟨m1, m2⟩ := a1 hex
          obtain ⟨M9, w1, w2, w3⟩ := hgo 0 Mi m1 (fun _ _ _ => rfl)
          refine Or.inl ⟨_, w1, Or.inr ⟨rfl, ⟨j, hjl, hex⟩, fun o i q => by show M9 o i = M o i; rw [w3 o (by omega), hF o i q]⟩, ?_⟩
          show (if (0 : Int32) = 0 then 0 else _) < (if (1 : Int32) = 0 then 0 else _)
          rw [if_pos rfl, if_neg one_ne]
          omega
    · simp only at h1 hF
      subst h1
      refine Or.inr ⟨(0, Mi), ?_, Or.inr ⟨rfl, h2, hF⟩⟩
      unfold b_X12_isTouch_21
      by_cases c : nI L * Mi 128 17 ≤ x
      · rw [if_pos c]
      · rw [if_neg c, if_pos rfl]) 100000 ((1 : Int32), (0 : Int32), st2 Mr 128 36 (0 : Int32)) (Or.inl ⟨0, by omega, rfl, rfl, hA3, hp0, fun i hi => absurd hi (by omega), f3⟩) (by
      show (if (1 : Int32) = 0 then 0 else L * k - _ + 1) < _
      rw [if_neg one_ne]
      omega)
  unfold f_X12_isTouch
  simp only [Lt_eq]
  rw [b1, Bd_some, r1, Bd_some]
  obtain ⟨⟨v, M'⟩, k1, k2⟩ := key
  rw [k1, Bd_some]
  dsimp only
  rcases k2 with ⟨h1, h2, h3, h4⟩ | ⟨h1, h2, h4⟩
  · simp only at h1 h3 h4
    subst h1
    have m16 : M' 128 16 = nI n := by rw [h4 128 16 (by omega)]; exact hM.1
    rw [if_neg one_ne, figOf_spec m16 hn6 (by decide) (fun p hp => h3 (5 + p) (by omega)), figs_congr n _ (rwA k C Me A (L * k)) (fun p hp => tXA_row hV hk (L * k) p hp), Bd_some, roundsNow_spec hn6 m16, Bd_some]
    refine ⟨M', ?_, h4⟩
    have e1 := figs_b hn6 (prm9 hn6 (prm_rwA (A := A) hV hk (L * k)))
    have e2 := figs_b (w := fun p => p) hn6 (fun p hp => by show p < 9; omega)
    have htch : tchB n k C Me L A = true ↔ figs n (rwA k C Me A (L * k)) = figs n (fun p => p) := by
      rw [tchB_t]
      constructor
      · intro h; exact h.2
      · intro h
        exact ⟨fun j hj q hq z => h2 j hj q hq (by rw [← hR1, ← hR1]; exact z), h⟩
    by_cases e : figs n (rwA k C Me A (L * k)) = figs n (fun p => p)
    · rw [if_pos (htch.mpr e), if_pos (by rw [e])]
    · rw [if_neg (fun z => e (htch.mp z)), if_neg (fun z => e (nI_inj (by omega) (by omega) z))]
  · simp only at h1 h4
    subst h1
    refine ⟨M', ?_, h4⟩
    obtain ⟨i, hi, q, hq, e⟩ := h2
    rw [if_pos rfl, if_neg (fun z => (tchB_t.mp z).1 i hi q hq (by rw [hR1, hR1]; exact e))]
