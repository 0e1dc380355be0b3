theorem tireAll_spec {e t n k ns C : Nat} {Me W S E : Nat → Nat} {M : Mm} (hT : TW t n k ns C Me W S M) (hV : TV n k ns C Me W S) (h2 : M e 2 = nI (E 4)) (h3 : M e 3 = nI (E 3)) (e3 : E 3 < 2) (e4 : E 4 < 2 ^ ns) (hR : ∀ r, r < 6 → M (e + 2) r = nI (E (11 + r))) (hQ : ∀ r, r < 6 → M (e + 3) r = nI (E (17 + r))) (eP : ∀ r, r < ns → E (11 + r) < ns) (eT : ∀ r, r < 6 → E (17 + r) ≤ 9999) (he : 37 ≤ e) : ∃ M', f_X1_tireAll e t M = some M' ∧ (∀ r, r < 6 → M' (e + 3) r = nI (tirE W S ns E (17 + r))) ∧ ∀ o, o ≠ e + 3 → M' o = M o := by
  have hV0 := hV
  obtain ⟨hbd, -, -, -, hW, hS⟩ := hV
  have hns : ns ≤ 6 := by omega
  have h64 := pow_ns hns
  have ht : t = 1 ∨ t = 18 := hT.1
  unfold f_X1_tireAll
  simp only [Lt_eq]
  have hj : (if M e 3 = 0 then (0 : Int32) else (1 : Int32)) = nI (E 3) := by
    rw [h3]
    rcases (show E 3 = 0 ∨ E 3 = 1 by omega) with h | h <;> rw [h] <;> rfl
  rw [hj]
  have key := Lp_inv (f := b_X1_tireAll_15 e t (nI (E 3))) (fun s => ∃ i, i ≤ ns ∧ s.1 = nI i ∧ (∀ r, r < 6 → s.2 (e + 3) r = nI (tirE W S i E (17 + r))) ∧ ∀ o, o ≠ e + 3 → s.2 o = M o) (fun s => ns - s.1.toNatClampNeg) (fun t' => (∀ r, r < 6 → t' (e + 3) r = nI (tirE W S ns E (17 + r))) ∧ ∀ o, o ≠ e + 3 → t' o = M o) ?_ 100000 ((0 : Int32), M) ⟨0, by omega, rfl, fun r hr => by rw [tirE, if_neg (by omega)]; exact hQ r hr, fun _ _ => rfl⟩ (by show ns - _ < _; omega)
  · obtain ⟨M', g1, g2, g3⟩ := key
    exact ⟨M', by rw [g1]; rfl, g2, g3⟩
  · rintro ⟨x, Mi⟩ ⟨i, hi, hx, hAi, hFi⟩
    simp only at hx hAi hFi
    subst hx
    have fT : TW t n k ns C Me W S Mi := by
      obtain ⟨g0, g1, g2, g3, g4, g5, g6, g7⟩ := hT
      refine ⟨g0, by rw [hFi t (by omega)]; exact g1, by rw [hFi t (by omega)]; exact g2, by rw [hFi t (by omega)]; exact g3, fun h => by rw [hFi (t + 1) (by omega)]; exact g4 h, fun i hi => ?_, fun i hi => by rw [hFi (t + 3) (by omega)]; exact g6 i hi, fun i hi => by rw [hFi (t + 4) (by omega)]; exact g7 i hi⟩
      rw [hFi (t + 5 + i) (by omega)]; exact g5 i hi
    unfold b_X1_tireAll_15
    simp only [Lt_eq]
    rw [fT.2.2.2.1]
    by_cases hin : i = ns
    · subst hin
      exact Or.inr ⟨_, by rw [if_pos (nI_le (Nat.le_refl _) (by omega))], hAi, hFi⟩
    · have hlt : i < ns := by omega
      refine Or.inl ?_
      have hr := eP i hlt
      have hw := hW (E (11 + i)) (by omega)
      have hti := eT i (by omega)
      have a17 : Mi (e + 3) i = nI (E (17 + i)) := by rw [hAi i (by omega), tirE, if_neg (by omega)]
      have hI : f_X1_isOut e (nI i) Mi = if (E 4).testBit i then 1 else 0 := isOut_spec (by rw [hFi e (by omega)]; exact h2) (by omega) (by omega)
      rw [if_neg (nI_ge hlt (by omega)), show (6 : Int32) = nI 6 from rfl, if_neg (nI_ge (by omega) (by omega)), hI, ropeOf_spec (by omega) (by rw [hFi (e + 2) (by omega)]; exact hR i (by omega)), Bd_some, excess_spec fT hV0 hlt (by omega), Bd_some, nI_1]
      simp only [Gd_t ((ib_nI (show i < 2 ^ 31 by omega)).mpr (show i < 6 by omega))]
      rw [ix_nI (by omega), a17, nI_add, nI_add]
      cases hbt : (E 4).testBit i with
      | true =>
        rw [if_pos rfl, if_neg (by decide), Bd_some]
        refine ⟨_, rfl, ⟨i + 1, by omega, rfl, fun r hr2 => ?_, hFi⟩, ?_⟩
        · show Mi (e + 3) r = _
          rw [hAi r hr2]
          by_cases hri : r = i
          · subst hri
            rw [tirE, if_neg (by omega), tirE, if_pos (by omega), show 17 + r - 17 = r by omega, tir1, if_pos hbt]
          · rw [tirE, tirE]
            by_cases hq : r < i
            · rw [if_pos (by omega), if_pos (by omega)]
            · rw [if_neg (by omega), if_neg (by omega)]
        · show ns - (nI (i + 1)).toNatClampNeg < ns - (nI i).toNatClampNeg
          rw [nI_clamp (by omega), nI_clamp (by omega)]
          omega
      | false =>
        rw [if_pos (show (if false = true then (1 : Int32) else 0) = 0 from rfl), Bd_some]
        have hv : (if nI (E (17 + i) + (W (E (11 + i)) - S i) + E 3) < (9999 : Int32) then nI (E (17 + i) + (W (E (11 + i)) - S i) + E 3) else (9999 : Int32)) = nI (tir1 W S E i) := by
          unfold tir1
          rw [if_neg (show ¬ (E 4).testBit i = true by rw [hbt]; decide), show (9999 : Int32) = nI 9999 from rfl]
          by_cases hq : E (17 + i) + (W (E (11 + i)) - S i) + E 3 < 9999
          · rw [if_pos (nI_lt hq (by omega)), Nat.min_eq_right (by omega)]
          · rw [if_neg (nI_nlt (by omega) (by omega)), Nat.min_eq_left (by omega)]
        rw [hv]
        refine ⟨_, rfl, ⟨i + 1, by omega, rfl, fun r hr2 => ?_, fun o ho2 => (congrFun rfl o).trans ((s2_ne ho2).trans (hFi o ho2))⟩, ?_⟩
        · show st2 Mi (e + 3) i (nI (tir1 W S E i)) (e + 3) r = _
          by_cases hri : r = i
          · subst hri
            rw [s2_eq, tirE, if_pos (by omega), show 17 + r - 17 = r by omega]
          · rw [s2_nk hri, hAi r hr2, tirE, tirE]
            by_cases hq : r < i
            · rw [if_pos (by omega), if_pos (by omega)]
            · rw [if_neg (by omega), if_neg (by omega)]
        · show ns - (nI (i + 1)).toNatClampNeg < ns - (nI i).toNatClampNeg
          rw [nI_clamp (by omega), nI_clamp (by omega)]
          omega
/-- who would be out -/
def losE (n ns : Nat) (E : Nat → Nat) : Option Nat := match lstR E (E (5 + n - 1)) ns with
  | none => none
  | some r => if (E 4).testBit r then none else if 1 < cntI (E 4) ns then some r else none
theorem loserBy_spec {e t n k ns C : Nat} {Me W S E : Nat → Nat} {M : Mm} {w : Nat → Nat} (hT : TW t n k ns C Me W S M) (hV : TV n k ns C Me W S) (hn : 0 < n) (h2 : M e 2 = nI (E 4)) (e4 : E 4 < 2 ^ ns) (hR : ∀ r, r < 6 → M (e + 2) r = nI (E (11 + r))) (eP : ∀ r, r < ns → E (11 + r) < ns) (eJ : ∀ r q, r < ns → q < ns → E (11 + r) = E (11 + q) → r = q) (hw : ∀ p, p < n → w p < 8) (hlast : w (n - 1) = E (5 + n - 1)) : f_X1_loserBy e (nI (enc n w)) t M = some (lI (losE n ns E)) := by
  obtain ⟨hbd, -⟩ := hV
  have hns : ns ≤ 6 := by omega
  have h64 := pow_ns hns
  obtain ⟨ht, t0, t1, t2, -⟩ := hT
  have hwl := hw (n - 1) (by omega)
  unfold f_X1_loserBy
  rw [t0, show nI n - (1 : Int32) = nI (n - 1) from pk_sub (b := 1) (by omega), bellIn_enc (by omega) hw (by omega), hlast, suitorOf_spec hns t2 hR (by omega) (fun r hr => by have := eP r hr; omega) eJ, Bd_some]
  simp only [Lt_eq]
  have hcn := cntI_le (E 4) ns
  unfold losE
  cases hl : lstR E (E (5 + n - 1)) ns with
  | none => rfl
  | some r =>
    obtain ⟨hr, -⟩ := lstR_lt hl
    have hI : f_X1_isOut e (lI (some r)) M = if (E 4).testBit r then 1 else 0 := isOut_spec h2 (by omega) (by omega)
    have hS : f_X1_stillIn e t M = nI (cntI (E 4) ns) := by
      unfold f_X1_stillIn
      rw [t2, h2]
      exact still_spec ns (by omega) (E 4) (by omega) e4
    rw [if_neg (show ¬ lI (some r) = (-1 : Int32) from nI_m1 (show r < 2 ^ 31 by omega)), hI, hS]
    show (if (if (if (E 4).testBit r = true then (1 : Int32) else 0) = 0 then _ else (0 : Int32)) = 0 then some (-1 : Int32) else some (lI (some r))) = some (lI (if (E 4).testBit r then none else if 1 < cntI (E 4) ns then some r else none))
    cases (E 4).testBit r with
    | true => rfl
    | false =>
      rw [if_pos (show (if false = true then (1 : Int32) else 0) = 0 from rfl), show (2 : Int32) = nI 2 from rfl]
      by_cases hc : 1 < cntI (E 4) ns
      · rw [if_neg (nI_nlt (show 2 ≤ cntI (E 4) ns by omega) (by omega)), if_neg (by decide), if_neg (by decide), if_pos hc]
      · rw [if_pos (nI_lt (show cntI (E 4) ns < 2 by omega) (by omega)), if_pos rfl, if_neg (by decide), if_neg hc]
        rfl
