/-! the reference's sharing: every code -/
def st6 (x : Nat) : Nat → Nat
  | 0 => 0
  | i + 1 => st6 x i ||| 2 ^ (x / 6 ^ i % 6)
theorem st6_bit {x b : Nat} : ∀ i, (st6 x i).testBit b = true ↔ ∃ j, j < i ∧ x / 6 ^ j % 6 = b
  | 0 => by
    constructor
    · intro h
      exact absurd h (by show ¬ (0 : Nat).testBit b = true; rw [Nat.zero_testBit]; simp)
    · rintro ⟨j, hj, -⟩
      omega
  | i + 1 => by
    have ih := st6_bit (x := x) (b := b) i
    show (st6 x i ||| 2 ^ (x / 6 ^ i % 6)).testBit b = true ↔ _
    rw [Nat.testBit_or, Bool.or_eq_true, ih, Nat.testBit_two_pow]
    constructor
    · rintro (⟨j, h1, h2⟩ | h)
      · exact ⟨j, by omega, h2⟩
      · exact ⟨i, by omega, of_decide_eq_true h⟩
    · rintro ⟨j, h1, h2⟩
      by_cases e : j = i
      · right; rw [← e]; exact decide_eq_true h2
      · exact Or.inl ⟨j, by omega, h2⟩
theorem st6_lt {x : Nat} : ∀ i, st6 x i < 2 ^ 6
  | 0 => by show 0 < 2 ^ 6; omega
  | i + 1 => Nat.or_lt_two_pow (st6_lt i) (Nat.pow_lt_pow_right (by omega) (Nat.mod_lt _ (by omega)))
theorem st6_full {ns x : Nat} (hns : ns ≤ 6) : st6 x ns = 2 ^ ns - 1 ↔ prm ns (pd6 ns x) := by
  constructor
  · intro h
    have ho : ∀ b, b < ns → ∃ r, r < ns ∧ pd6 ns x r = b := fun b hb => by
      have ht : (st6 x ns).testBit b = true := by
        rw [h, Nat.testBit_two_pow_sub_one]; exact decide_eq_true hb
      obtain ⟨j, j1, j2⟩ := (st6_bit ns).mp ht
      exact ⟨ns - 1 - j, by omega, by unfold pd6; rw [show ns - 1 - (ns - 1 - j) = j by omega]; exact j2⟩
    exact inj_of_onto ho
  · intro h
    apply Nat.eq_of_testBit_eq
    intro b
    rw [Nat.testBit_two_pow_sub_one]
    by_cases hb : b < ns
    · rw [decide_eq_true hb]
      obtain ⟨r, r1, r2⟩ := surj ns (pd6 ns x) h.1 h.2 b hb
      exact (st6_bit ns).mpr ⟨ns - 1 - r, by omega, r2⟩
    · rw [decide_eq_false hb]
      by_cases e : (st6 x ns).testBit b = true
      · obtain ⟨j, j1, j2⟩ := (st6_bit ns).mp e
        have := h.1 (ns - 1 - j) (by omega)
        unfold pd6 at this
        rw [show ns - 1 - (ns - 1 - j) = j by omega] at this
        omega
      · simpa using e
theorem pIx_00 (n : Nat) : nI n - (1 : Int32) = pIx n 0 := by
  by_cases h : 0 < n
  · exact pIx_0 h
  · rw [show n = 0 by omega]; decide
theorem layPerm_spec {ns x : Nat} {M : Mm} (hns : ns ≤ 6) (hx : x < 2 ^ 31) (m18 : M 128 18 = nI ns) : ∃ M', f_X12_layPerm 128 (nI x) M = some ((if st6 x ns = 2 ^ ns - 1 then (1 : Int32) else (0 : Int32)), M') ∧ (∀ r, r < ns → M' 145 r = nI (pd6 ns x r)) ∧ ∀ o, o ≠ 145 → M' o = M o := by
  have key := Lp_inv (f := b_X12_layPerm_12) (fun s => ∃ i, i ≤ ns ∧ s.1 = nI (x / 6 ^ i) ∧ s.2.1 = nI (st6 x i) ∧ s.2.2.1 = pIx ns i ∧ (∀ r, r < ns → ns - 1 - r < i → s.2.2.2 145 r = nI (pd6 ns x r)) ∧ ∀ o, o ≠ 145 → s.2.2.2 o = M o) (fun s => (s.2.2.1 + 1).toNatClampNeg) (fun t => t.1 = nI (st6 x ns) ∧ (∀ r, r < ns → t.2 145 r = nI (pd6 ns x r)) ∧ ∀ o, o ≠ 145 → t.2 o = M o) (fun s hs => by
    obtain ⟨i, hi, hy, hz, hp, hR, hF⟩ := hs
    obtain ⟨y, z, p, Mi⟩ := s
    simp only at hy hz hp hR hF
    subst hp
    subst hy
    subst hz
    by_cases hin : i = ns
    · subst hin
      exact Or.inr ⟨(nI (st6 x i), Mi), by unfold b_X12_layPerm_12; rw [if_pos (show pIx i i < 0 by unfold pIx; rw [if_neg (by omega)]; decide)], rfl, fun r hr => hR r hr (by omega), hF⟩
    · have hp : pIx ns i = nI (ns - 1 - i) := by unfold pIx; rw [if_pos (by omega)]
      have hg : ib (pIx ns i) 6 := by rw [hp]; exact (ib_nI (by omega)).mpr (by omega)
      have hxi : x / 6 ^ i < 2 ^ 31 := Nat.lt_of_le_of_lt (Nat.div_le_self _ _) hx
      have hd := Nat.mod_lt (x / 6 ^ i) (show 0 < 6 by omega)
      refine Or.inl ⟨(nI (x / 6 ^ (i + 1)), nI (st6 x (i + 1)), pIx ns (i + 1), st2 Mi 145 (ns - 1 - i) (nI (x / 6 ^ i % 6))), ?_, ⟨i + 1, by omega, rfl, rfl, rfl, fun r hr hr2 => ?_, fun o ho => (s2_ne ho).trans (hF o ho)⟩, ?_⟩
      · unfold b_X12_layPerm_12
        simp only [Lt_eq]
        rw [if_neg (show ¬ pIx ns i < 0 by rw [hp]; exact nI_lt0 (by omega)), Gd_t hg, Gd_t hg, pIx_s (by omega), hp, ix_nI (by omega), s2_eq, show rm (nI (x / 6 ^ i)) (6 : Int32) = nI (x / 6 ^ i % 6) from rm_nI (b := 6) hxi (by omega) (by omega), sl1 (by omega), nI_or, show nI (x / 6 ^ i) / (6 : Int32) = nI (x / 6 ^ i / 6) from pk_div (d := 6) hxi (by omega) (by omega), Nat.div_div_eq_div_mul, ← Nat.pow_succ]
        rfl
      · show st2 Mi 145 (ns - 1 - i) (nI (x / 6 ^ i % 6)) 145 r = _
        rw [s2_at]
        by_cases e : ns - 1 - r = i
        · rw [if_pos ⟨rfl, by omega⟩]
          unfold pd6
          rw [e]
        · rw [if_neg (by omega)]
          exact hR r hr (by omega)
      · show (pIx ns (i + 1) + 1).toNatClampNeg < (pIx ns i + 1).toNatClampNeg
        rw [pIx_1 (by omega) hns, pIx_1 hi hns]
        omega) 100000 (nI x, (0 : Int32), nI ns - (1 : Int32), M) ⟨0, by omega, by show nI x = nI (x / 6 ^ 0); rw [Nat.pow_zero, Nat.div_one], rfl, pIx_00 ns, fun r hr h => absurd h (by omega), fun _ _ => rfl⟩ (by
      show (nI ns - (1 : Int32) + 1).toNatClampNeg < 100000
      rw [pIx_00, pIx_1 (by omega) hns]
      omega)
  obtain ⟨⟨s, M'⟩, g1, g2, g3, g4⟩ := key
  simp only at g2 g3 g4
  subst g2
  unfold f_X12_layPerm
  simp only [Lt_eq]
  rw [m18, g1, Bd_some]
  have f18 : M' 128 18 = nI ns := by rw [g4 128 (by omega)]; exact m18
  have hl := st6_lt (x := x) ns
  have h2 := p2_64 hns
  refine ⟨M', ?_, g3, g4⟩
  by_cases e : st6 x ns = 2 ^ ns - 1
  · rw [if_pos e, if_pos (show nI (st6 x ns) = (sl (1 : Int32) (M' 128 18)) - (1 : Int32) by rw [f18, all_spec ns (by omega), e])]
  · rw [if_neg e, if_neg (show ¬ nI (st6 x ns) = (sl (1 : Int32) (M' 128 18)) - (1 : Int32) by rw [f18, all_spec ns (by omega)]; exact fun q => e (nI_inj (by omega) (by omega) q))]
theorem sumR_le {c : Nat → Nat → Nat} {p : Nat → Nat} : ∀ r, (∀ q, q < r → c q (p q) ≤ 31) → sumR c p r ≤ 31 * r
  | 0, _ => Nat.le_refl _
  | r + 1, h => by
    have h1 := sumR_le r (fun q hq => h q (by omega))
    have h2 := h r (by omega)
    show sumR c p r + c r (p r) ≤ 31 * (r + 1)
    omega
theorem sum46_spec {n k ns C : Nat} {Me W S p : Nat → Nat} {z : Int32} {M : Mm} (hV : TV n k ns C Me W S) (hM : MT n k ns C Me W S M) (hp : prm ns p) (hr : ∀ r, r < ns → M 145 r = nI (p r)) : Lp (b_X12_layRopes_46 128 (z, M)) 100000 ((0 : Int32), (0 : Int32)) = some (nI (sumR (fun r b => W b - S r) p ns)) := by
  have hb := hV.1
  have hs : ∀ r, r < ns → b_X12_layRopes_46 128 (z, M) (nI (sumR (fun r b => W b - S r) p r), nI r) = some (.inl (nI (sumR (fun r b => W b - S r) p (r + 1)), nI (r + 1))) := fun r hrl => by
    have hpr := hp.1 r hrl
    have hw := hV.2.2.2.2.1 (p r) (by omega)
    have hsr := hV.2.2.2.2.2 r hrl
    have hg : ib (M 145 r) 6 := by rw [hr r hrl]; exact (ib_nI (by omega)).mpr (by omega)
    unfold b_X12_layRopes_46
    simp only [Lt_eq]
    rw [if_neg (show ¬ M 128 18 ≤ nI r by rw [hM.2.2.1]; exact nI_ge hrl (by omega)), ix_nI (by omega), Gd_t ((ib_nI (by omega)).mpr (by omega)), Gd_t hg, Gd_t ((ib_nI (by omega)).mpr (by omega)), hr r hrl, ix_nI (by omega), hM.2.2.2.2.2.1 (p r) (by omega), hM.2.2.2.2.2.2 r hrl, max0 (by omega) (by omega), nI_add, nI_1]
    rfl
  have he : b_X12_layRopes_46 128 (z, M) (nI (sumR (fun r b => W b - S r) p ns), nI ns) = some (.inr (nI (sumR (fun r b => W b - S r) p ns))) := by
    unfold b_X12_layRopes_46
    rw [if_pos (show M 128 18 ≤ nI ns by rw [hM.2.2.1]; exact nI_le (Nat.le_refl _) (by omega))]
  exact Lp_from (s0 := ((0 : Int32), (0 : Int32))) (fun r => (nI (sumR (fun r b => W b - S r) p r), nI r)) ns _ rfl hs he (by omega)
theorem p6_le {ns : Nat} (h : ns ≤ 6) : 6 ^ ns ≤ 46656 := by
  have : 6 ^ ns ≤ 6 ^ 6 := Nat.pow_le_pow_right (by omega) h
  omega
theorem layRopes_spec {n k ns C : Nat} {Me W S T g sq : Nat → Nat} {M : Mm} (hV : TV n k ns C Me W S) (hM : MT n k ns C Me W S M) (hT : TBl ns (fun r b => W b - S r) T) (hG : GRd ns (fun r b => W b - S r) T g sq) (hTb : T (2 ^ ns - 1) < 2000) : ∃ M', f_X12_layRopes 128 M = some (nI (T (2 ^ ns - 1)), M') ∧ (∀ r, r < ns → M' 146 r = nI (g r)) ∧ ∀ o, o ≠ 145 → o ≠ 146 → M' o = M o := by
  have hb := hV.1
  have hns : ns ≤ 6 := by omega
  have h6 := p6_le hns
  have m18 := hM.2.2.1
  have hg6 : ∀ q, q < ns → g q < 6 := fun q hq => by have := (hG.2 q hq).1; omega
  have hGl := cod6_lt ns hg6
  have hgp := gr_prm hns hG
  have hcod : Lp (b_X12_layRopes_4 128 M) 100000 ((1 : Int32), (0 : Int32)) = some (nI (6 ^ ns)) := by
    have hs : ∀ i, i < ns → b_X12_layRopes_4 128 M (nI (6 ^ i), nI i) = some (.inl (nI (6 ^ (i + 1)), nI (i + 1))) := fun i hi => by
      unfold b_X12_layRopes_4
      simp only [Lt_eq]
      rw [if_neg (show ¬ M 128 18 ≤ nI i by rw [m18]; exact nI_ge hi (by omega)), show nI (6 ^ i) * (6 : Int32) = nI (6 ^ i * 6) from pk_mul (6 ^ i) 6, nI_1, ← Nat.pow_succ]
    have he : b_X12_layRopes_4 128 M (nI (6 ^ ns), nI ns) = some (.inr (nI (6 ^ ns))) := by
      unfold b_X12_layRopes_4
      rw [if_pos (show M 128 18 ≤ nI ns by rw [m18]; exact nI_le (Nat.le_refl _) (by omega))]
    exact Lp_from (s0 := ((1 : Int32), (0 : Int32))) (fun i => (nI (6 ^ i), nI i)) ns _ rfl hs he (by omega)
  generalize hTf : T (2 ^ ns - 1) = Tf at *
  have key := Lp_inv (f := b_X12_layRopes_27 128 (nI (6 ^ ns))) (fun s => ∃ x, x ≤ 6 ^ ns ∧ s.2.1 = nI x ∧ ((x ≤ cod6 g ns ∧ (s.1 = -1 ∨ ∃ f, s.1 = nI f ∧ Tf < f ∧ f < 10000)) ∨ (cod6 g ns < x ∧ s.1 = nI Tf ∧ ∀ r, r < ns → s.2.2 146 r = nI (g r))) ∧ ∀ o, o ≠ 145 → o ≠ 146 → s.2.2 o = M o) (fun s => 6 ^ ns - s.2.1.toNatClampNeg) (fun t => t.1 = nI Tf ∧ (∀ r, r < ns → t.2 146 r = nI (g r)) ∧ ∀ o, o ≠ 145 → o ≠ 146 → t.2 o = M o) (fun s hs => by
    obtain ⟨x, hx, hy, hc, hF⟩ := hs
    obtain ⟨v, y, Mi⟩ := s
    simp only at hy hc hF
    subst hy
    by_cases hin : x = 6 ^ ns
    · rcases hc with ⟨q, -⟩ | ⟨q1, q2, q3⟩
      · omega
      · exact Or.inr ⟨(v, Mi), by unfold b_X12_layRopes_27; rw [if_pos (show nI (6 ^ ns) ≤ nI x from nI_le (by omega) (by omega))], q2, q3, hF⟩
    · have hxl : x < 6 ^ ns := by omega
      have c1 : ¬ nI (6 ^ ns) ≤ nI x := nI_ge hxl (by omega)
      have hmu : 6 ^ ns - (nI (x + 1)).toNatClampNeg < 6 ^ ns - (nI x).toNatClampNeg := by
        rw [nI_clamp (by omega), nI_clamp (by omega)]
        omega
      obtain ⟨Mp, p1, p2, p3⟩ := layPerm_spec (M := Mi) (x := x) hns (by omega) (by rw [hF 128 (by omega) (by omega)]; exact m18)
      by_cases hval : st6 x ns = 2 ^ ns - 1
      · rw [if_pos hval] at p1
        have hpp := (st6_full hns).mp hval
        have hMp : MT n k ns C Me W S Mp := MT_c (fun o ho => by rw [p3 o (by omega), hF o (by omega) (by omega)]) hM
        have hsum := sum46_spec (z := 1) hV hMp hpp p2
        have hsb : sumR (fun r b => W b - S r) (pd6 ns x) ns ≤ 31 * ns := sumR_le ns (fun q hq => by
          have := hV.2.2.2.2.1 (pd6 ns x q) (by have := hpp.1 q hq; omega)
          show W (pd6 ns x q) - S q ≤ 31
          omega)
        obtain ⟨Mb, b1, b2, b3, b4⟩ := bring_spec (M := Mp) (o0 := 145) (o2 := 146) (a := 0) (b := 0) (n := 6) (by decide) (by decide) (by decide) (by decide) (Or.inl (by omega))
        have b1' : f_X12_bring 145 (0 : Int32) 146 (0 : Int32) (6 : Int32) Mp = some Mb := b1
        have fb : ∀ o, o ≠ 145 → o ≠ 146 → Mb o = M o := fun o d1 d2 => by rw [b4 o d2, p3 o d1, hF o d1 d2]
        have fp : ∀ o, o ≠ 145 → o ≠ 146 → Mp o = M o := fun o d1 d2 => by rw [p3 o d1, hF o d1 d2]
        have hb147 : ∀ r, r < ns → Mb 146 r = nI (pd6 ns x r) := fun r hr => by
          have := b2 r (by omega)
          rw [show 0 + r = r by omega] at this
          rw [this, p2 r hr]
        generalize hsm : sumR (fun r b => W b - S r) (pd6 ns x) ns = sm at *
        have hge := sum_ge hns hT hpp
        rw [hsm, hTf] at hge
        have hbody : b_X12_layRopes_27 128 (nI (6 ^ ns)) (v, nI x, Mi) = (if v = (-1 : Int32) then some (.inl (nI sm, nI (x + 1), Mb)) else (if v ≤ nI sm then some (.inl (v, nI (x + 1), Mp)) else some (.inl (nI sm, nI (x + 1), Mb)))) := by
          unfold b_X12_layRopes_27
          simp only [Lt_eq]
          rw [if_neg c1, p1, Bd_some, if_neg one_ne, hsum, Bd_some, b1', Bd_some, nI_1]
          by_cases e1 : v = -1
          · rw [if_pos e1, if_pos e1, Bd_some]
          · rw [if_neg e1, if_neg e1]
            by_cases e2 : v ≤ nI sm
            · rw [if_pos e2, if_pos e2, Bd_some]
            · rw [if_neg e2, if_neg e2, Bd_some]
        by_cases hxg : x = cod6 g ns
        · have hpg : ∀ r, r < ns → pd6 ns x r = g r := fun r hr => by rw [hxg]; exact pd6_cod hg6 hr
          have hsT : sm = Tf := by
            rw [← hsm, ← hTf, ← gr_least hns hT hG]
            have : ∀ r, r ≤ ns → sumR (fun r b => W b - S r) (pd6 ns x) r = sumR (fun r b => W b - S r) g r := fun r => by
              induction r with
              | zero => intro _; rfl
              | succ r ih =>
                intro hr
                show sumR _ (pd6 ns x) r + (W (pd6 ns x r) - S r) = sumR _ g r + (W (g r) - S r)
                rw [ih (by omega), hpg r (by omega)]
            exact this ns (Nat.le_refl _)
          have hres : ∃ Mq, b_X12_layRopes_27 128 (nI (6 ^ ns)) (v, nI x, Mi) = some (.inl (nI Tf, nI (x + 1), Mq)) ∧ Mq = Mb := by
            rw [hbody, hsT]
            rcases hc with ⟨-, q | ⟨f, q1, q2, q3⟩⟩ | ⟨q, -⟩
            · rw [if_pos q]; exact ⟨Mb, rfl, rfl⟩
            · rw [q1, if_neg (nI_m1 (by omega)), if_neg (nI_ge q2 (by omega))]; exact ⟨Mb, rfl, rfl⟩
            · omega
          obtain ⟨Mq, r1, rfl⟩ := hres
          exact Or.inl ⟨(nI Tf, nI (x + 1), Mq), r1, ⟨x + 1, by omega, rfl, Or.inr ⟨by omega, rfl, fun r hr => by show Mq 146 r = _; rw [hb147 r hr, hpg r hr]⟩, fb⟩, hmu⟩
        · by_cases hlt : x < cod6 g ns
          · have hgt := gr_code hns hT hG hxl hpp hlt
            rw [hsm, hTf] at hgt
            rcases hc with ⟨-, q | ⟨f, q1, q2, q3⟩⟩ | ⟨q, -⟩
            · rw [if_pos q] at hbody
              exact Or.inl ⟨_, hbody, ⟨x + 1, by omega, rfl, Or.inl ⟨by omega, Or.inr ⟨sm, rfl, hgt, by omega⟩⟩, fb⟩, hmu⟩
            · rw [q1, if_neg (nI_m1 (by omega))] at hbody
              by_cases e : f ≤ sm
              · rw [if_pos (nI_le e (by omega))] at hbody
                rw [q1]
                exact Or.inl ⟨_, hbody, ⟨x + 1, by omega, rfl, Or.inl ⟨by omega, Or.inr ⟨f, rfl, q2, q3⟩⟩, fp⟩, hmu⟩
              · rw [if_neg (nI_ge (show sm < f by omega) (by omega))] at hbody
                rw [q1]
                exact Or.inl ⟨_, hbody, ⟨x + 1, by omega, rfl, Or.inl ⟨by omega, Or.inr ⟨sm, rfl, hgt, by omega⟩⟩, fb⟩, hmu⟩
            · omega
          · rcases hc with ⟨q, -⟩ | ⟨q1, q2, q3⟩
            · omega
            · rw [q2, if_neg (nI_m1 (by omega)), if_pos (nI_le hge (by omega))] at hbody
              rw [q2]
              exact Or.inl ⟨_, hbody, ⟨x + 1, by omega, rfl, Or.inr ⟨by omega, rfl, fun r hr => by show Mp 146 r = _; rw [p3 146 (by omega)]; exact q3 r hr⟩, fp⟩, hmu⟩
      · rw [if_neg hval] at p1
        have hbody : b_X12_layRopes_27 128 (nI (6 ^ ns)) (v, nI x, Mi) = some (.inl (v, nI (x + 1), Mp)) := by
          unfold b_X12_layRopes_27
          simp only [Lt_eq]
          rw [if_neg c1, p1, Bd_some, if_pos rfl, nI_1]
        have hne : ¬ x = cod6 g ns := fun e => hval ((st6_full hns).mpr (by
          have hpg : ∀ r, r < ns → pd6 ns x r = g r := fun r hr => by rw [e]; exact pd6_cod hg6 hr
          exact ⟨fun p hp => by rw [hpg p hp]; exact hgp.1 p hp, fun p q hp hq z => hgp.2 p q hp hq (by rw [← hpg p hp, ← hpg q hq]; exact z)⟩))
        refine Or.inl ⟨_, hbody, ⟨x + 1, by omega, rfl, ?_, fun o d1 d2 => by show Mp o = M o; rw [p3 o d1, hF o d1 d2]⟩, hmu⟩
        rcases hc with ⟨q, q'⟩ | ⟨q1, q2, q3⟩
        · exact Or.inl ⟨by omega, q'⟩
        · exact Or.inr ⟨by omega, q2, fun r hr => by show Mp 146 r = _; rw [p3 146 (by omega)]; exact q3 r hr⟩) 100000 ((-1 : Int32), (0 : Int32), M) ⟨0, by omega, rfl, Or.inl ⟨by omega, Or.inl rfl⟩, fun _ _ _ => rfl⟩ (by show 6 ^ ns - _ < _; omega)
  obtain ⟨⟨v, M'⟩, k1, k2, k3, k4⟩ := key
  simp only at k2 k3 k4
  subst k2
  unfold f_X12_layRopes
  rw [hcod, Bd_some, k1, Bd_some]
  exact ⟨M', rfl, k3, k4⟩
theorem op_ropes {M : Mm} (x : Int32) (h : InvX M) : ∃ r M1 M2, f_X11_ropes 0 x M = some (r, M1) ∧ f_X12_ropes 128 x M1 = some (r, M2) ∧ InvX M2 := by
  obtain ⟨t, n, k, ns, C, Me, W, S, E, hI⟩ := id h
  obtain ⟨ht, h00, hkd, t0, t1, t2⟩ := inv_t hI
  obtain ⟨m16, m17, m18, m19⟩ := inv_m hI
  obtain ⟨n1, n2, n3, n4, n5⟩ := inv_n hI
  obtain ⟨⟨hV, z0, z1, hT, hM⟩, -⟩ := id hI
  have hns : ns ≤ 6 := by omega
  have h2 := p2_64 hns
  unfold f_X11_ropes f_X12_ropes
  simp only [h00, Gd_t hkd]
  obtain ⟨T, g, sq, M1, s1, s2, s3, s4, s5, s6, s7⟩ := share_spec hT hV
  obtain ⟨M2, l1, l2, l3⟩ := layRopes_spec (M := M1) hV (MT_c (fun o ho => s7 o (by omega) (by omega)) hM) s2 s3 s5
  have z1' : (M1 0 0).toNatClampNeg = t := by rw [s7 0 (by omega) (by omega)]; exact h00
  have hall : f_X4_allBells t M1 = nI (2 ^ ns - 1) := by
    unfold f_X4_allBells
    rw [s7 t (by omega) (by omega), t2, if_neg (show ¬ (6 : Int32) < nI ns from nI_nlt (a := 6) (by omega) (by omega)), all_spec ns (by omega)]
  have hinv : InvX M2 := Inv_tr (fun o j q => by
    unfold Scrt at q
    rw [l3 o (by omega) (by omega), s7 o (by omega) (by omega)]) hI
  by_cases hx : x = -1
  · rw [if_pos hx, s1, Bd_some, if_pos hx]
    simp only [z1', Gd_t hkd]
    unfold f_X4_leastTogether
    have hg : ib (f_X4_allBells t M1) 64 := by rw [hall]; exact (ib_nI (by omega)).mpr (by omega)
    rw [Gd_t hg, hall, ix_nI (by omega), s4, Bd_some]
    exact ⟨_, _, M2, rfl, by rw [if_pos hx, l1, Bd_some, if_pos hx], hinv⟩
  · rw [if_neg hx]
    rcases suit_cases hns x with ⟨r, hr, rfl⟩ | ⟨q1, q2⟩
    · rw [hasSuitor_spec t2 hr (by omega), if_neg one_ne, s1, Bd_some, if_neg hx]
      unfold f_X4_bellFor
      rw [if_neg (nI_lt0 (by omega)), if_neg (show ¬ (6 : Int32) ≤ nI r from nI_ge (b := 6) (by omega) (by omega)), Gd_t ((ib_nI (by omega)).mpr (by omega)), ix_nI (by omega), s6 r hr, Bd_some]
      refine ⟨_, _, M2, rfl, ?_, hinv⟩
      rw [if_neg hx, isSuitor_1 hns hr (by rw [s7 128 (by omega) (by omega)]; exact m18), if_neg one_ne, l1, Bd_some, if_neg hx, Gd_t ((ib_nI (by omega)).mpr (by omega))]
      dsimp only
      rw [l2 r hr]
    · rw [q1 t M t2, if_pos rfl]
      exact ⟨_, _, _, rfl, by rw [if_neg hx, q2 M m18, if_pos rfl], h⟩
