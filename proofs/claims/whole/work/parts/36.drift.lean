/-! draws and drift -/
def drw (a : Nat) : Nat := (a * 1103515245 + 12345) % 2147483648
theorem drw_lt (a : Nat) : drw a < 2 ^ 31 := Nat.mod_lt _ (by omega)
theorem lN_mask31 (x : Nat) : lN x &&& lN 2147483647 = lN (x % 2147483648) := by
  apply Int64.toBitVec_inj.1
  show BitVec.ofNat 64 x &&& BitVec.ofNat 64 2147483647 = BitVec.ofNat 64 (x % 2147483648)
  apply BitVec.eq_of_toNat_eq
  rw [BitVec.toNat_and, BitVec.toNat_ofNat, BitVec.toNat_ofNat, BitVec.toNat_ofNat, show 2147483647 % 2 ^ 64 = 2 ^ 31 - 1 by omega, Nat.and_two_pow_sub_one_eq_mod]
  omega
theorem drwC {a : Nat} (h : a < 2 ^ 31) : Int64.toInt32 ((((Int32.toInt64 (nI a)) * (1103515245 : Int64)) + (12345 : Int64)) &&& (2147483647 : Int64)) = nI (drw a) := by
  rw [nI_l h]
  show Int64.toInt32 ((lN a * lN 1103515245 + lN 12345) &&& lN 2147483647) = _
  rw [lN_mul, lN_add, lN_mask31, lN_i]
  rfl
theorem drwM {a : Nat} (h : a < 2 ^ 31) : Int64.toInt32 (rmL (((Int32.toInt64 (nI a)) * (1103515245 : Int64)) + (12345 : Int64)) (2147483648 : Int64)) = nI (drw a) := by
  rw [nI_l h]
  show Int64.toInt32 (rmL (lN a * lN 1103515245 + lN 12345) (lN 2147483648)) = _
  unfold rmL
  rw [lN_mul, lN_add, pk_lRem (by omega) (by omega) (by omega), lN_i]
  rfl
theorem drawC_spec {sd m : Nat} {M : Mm} (hs : sd < 2 ^ 31) (h : M 0 15 = nI sd) (h0 : 0 < m) (hm : m < 100) : f_X11_draw 0 (nI m) M = some (nI (drw sd / 65536 % m), st2 M 0 15 (nI (drw sd))) := by
  have hd := drw_lt sd
  unfold f_X11_draw
  simp only [Lt_eq]
  rw [h, drwC hs, if_neg (nI_nle h0 (by omega)), Gd_t (nI_ne0 h0 (by omega)), s2_eq, show nI (drw sd) / (65536 : Int32) = nI (drw sd / 65536) from pk_div hd (d := 65536) (by omega) (by omega), rm_nI (by omega) h0 (by omega)]
theorem drawM_spec {sd m : Nat} {M : Mm} (hs : sd < 2 ^ 31) (h : M 128 30 = nI sd) (h0 : 0 < m) (hm : m < 100) : f_X12_draw 128 (nI m) M = some (nI (drw sd / 65536 % m), st2 M 128 30 (nI (drw sd))) := by
  have hd := drw_lt sd
  unfold f_X12_draw
  simp only [Lt_eq]
  rw [h, drwM hs, Gd_t (nI_ne0 h0 (by omega)), s2_eq, show nI (drw sd) / (65536 : Int32) = nI (drw sd / 65536) from pk_div hd (d := 65536) (by omega) (by omega), rm_nI (by omega) h0 (by omega)]
def chE (ns : Nat) (E : Nat → Nat) (sd : Nat) : Nat → Nat :=
  if drw sd / 65536 % 8 = 0 then up1 E 2 1 else if drw sd / 65536 % 8 = 1 then up1 E 3 (1 - E 3) else if drw sd / 65536 % 8 = 2 ∧ 0 < ns then swE (drw (drw sd) / 65536 % ns) (drw (drw (drw sd)) / 65536 % ns) E else E
def chS (ns sd : Nat) : Nat := if drw sd / 65536 % 8 = 2 ∧ 0 < ns then drw (drw (drw sd)) else drw sd
theorem chS_lt (ns sd : Nat) : chS ns sd < 2 ^ 31 := by unfold chS; split <;> exact drw_lt _
theorem chE_0 {ns sd : Nat} {E : Nat → Nat} (hns : ns ≤ 6) : chE ns E sd 0 = E 0 := by
  unfold chE
  split
  · rw [up1_o (by omega)]
  · split
    · rw [up1_o (by omega)]
    · split
      · rename_i q
        have a1 := Nat.mod_lt (drw (drw sd) / 65536) q.2
        have a2 := Nat.mod_lt (drw (drw (drw sd)) / 65536) q.2
        rw [swE_o (by omega) (by omega) (by omega)]
      · rfl
theorem EQ_ch {n k ns sd : Nat} {E : Nat → Nat} (hn : n ≤ 6) (hns : ns ≤ 6) (h : EQ n k ns E) : EQ n k ns (chE ns E sd) := by
  unfold chE
  split
  · exact EQ_up h (by omega)
  · split
    · exact EQ_up h (by omega)
    · split
      · rename_i q
        exact EQ_sw hn hns (Nat.mod_lt _ q.2) (Nat.mod_lt _ q.2) h
      · exact h
theorem nI_of8 {a : Nat} (h : a < 8) (c : Nat) (hc : c < 8) : (nI a = nI c) ↔ a = c := ⟨fun q => nI_inj (by omega) (by omega) q, fun q => by rw [q]⟩
theorem chanceC_spec {t n k ns sd : Nat} {E : Nat → Nat} {M : Mm} (ht : t = 1 ∨ t = 18) (h0 : M 0 0 = nI t) (t2 : M t 2 = nI ns) (hn : n ≤ 6) (hns : ns ≤ 6) (hs : sd < 2 ^ 31) (h16 : M 0 15 = nI sd) (e3 : E 3 < 2) (hC : CE 37 n k E M) : ∃ M', f_X11_letChanceAct 0 M = some M' ∧ CE 37 n k (chE ns E sd) M' ∧ M' 0 15 = nI (chS ns sd) ∧ ∀ o j, ¬ ((37 ≤ o ∧ o ≤ 40) ∨ (o = 0 ∧ j = 15)) → M' o j = M o j := by
  have hd := drw_lt sd
  have w8 := Nat.mod_lt (drw sd / 65536) (show 0 < 8 by omega)
  unfold f_X11_letChanceAct
  rw [show f_X11_draw 0 (8 : Int32) M = _ from drawC_spec (m := 8) hs h16 (by omega) (by omega), Bd_some]
  simp only [Lt_eq]
  have hC1 : CE 37 n k E (st2 M 0 15 (nI (drw sd))) := CE_c (fun o j _ _ => by rw [s2_ne (by omega)]) hC
  have f1 : ∀ o j, ¬ (o = 0 ∧ j = 15) → st2 M 0 15 (nI (drw sd)) o j = M o j := fun o j q => by rw [s2_at, if_neg q]
  have s1 : st2 M 0 15 (nI (drw sd)) 0 15 = nI (drw sd) := s2_eq
  generalize st2 M 0 15 (nI (drw sd)) = M1 at hC1 f1 s1
  unfold chE chS
  by_cases c0 : drw sd / 65536 % 8 = 0
  · rw [if_pos (show nI (drw sd / 65536 % 8) = (0 : Int32) by rw [c0]; rfl), if_pos c0, if_neg (by omega)]
    exact ⟨_, rfl, CE_2 (v := 1) hC1, by rw [s2_ne (by omega), s1], fun o j q => by rw [s2_ne (by omega), f1 o j (by omega)]⟩
  · rw [if_neg (show ¬ nI (drw sd / 65536 % 8) = (0 : Int32) from fun q => c0 ((nI_of8 w8 0 (by omega)).mp q)), if_neg c0]
    by_cases c1 : drw sd / 65536 % 8 = 1
    · rw [if_pos (show nI (drw sd / 65536 % 8) = (1 : Int32) by rw [c1]; rfl), if_pos c1, if_neg (show ¬ (drw sd / 65536 % 8 = 2 ∧ 0 < ns) by omega)]
      have ej : (if M1 37 3 = 0 then (1 : Int32) else (0 : Int32)) = nI (1 - E 3) := by
        rw [hC1.2.2.1]
        rcases (show E 3 = 0 ∨ E 3 = 1 by omega) with q | q <;> rw [q] <;> rfl
      rw [ej, Gd_t (zb_nI (by omega))]
      exact ⟨_, rfl, CE_3 hC1, by rw [s2_ne (by omega), s1], fun o j q => by rw [s2_ne (by omega), f1 o j (by omega)]⟩
    · rw [if_neg (show ¬ nI (drw sd / 65536 % 8) = (1 : Int32) from fun q => c1 ((nI_of8 w8 1 (by omega)).mp q)), if_neg c1]
      by_cases c2 : drw sd / 65536 % 8 = 2
      · rw [if_pos (show nI (drw sd / 65536 % 8) = (2 : Int32) by rw [c2]; rfl)]
        unfold f_X11_changeRopesByDraws
        have z1 : (M1 0 0).toNatClampNeg = t := by rw [f1 0 0 (by omega)]; exact tw_ref h0 ht
        have z2 : M1 t 2 = nI ns := by rw [f1 t 2 (by omega)]; exact t2
        simp only [z1, Gd_t (kd_tw ht)]
        rw [z2]
        by_cases hz : ns = 0
        · subst hz
          rw [if_pos (show nI 0 ≤ 0 by decide), Bd_some, if_neg (by omega), if_neg (by omega)]
          exact ⟨_, rfl, hC1, s1, fun o j q => f1 o j (by omega)⟩
        · have a1 := Nat.mod_lt (drw (drw sd) / 65536) (show 0 < ns by omega)
          have a2 := Nat.mod_lt (drw (drw (drw sd)) / 65536) (show 0 < ns by omega)
          rw [if_neg (nI_nle (by omega) (by omega)), drawC_spec hd s1 (by omega) (by omega), Bd_some, if_pos ⟨c2, by omega⟩, if_pos ⟨c2, by omega⟩]
          have z3 : (st2 M1 0 15 (nI (drw (drw sd))) 0 0).toNatClampNeg = t := by rw [s2_nk (by omega)]; exact z1
          have z4 : st2 M1 0 15 (nI (drw (drw sd))) t 2 = nI ns := by rw [s2_ne (by omega)]; exact z2
          simp only [z3, Gd_t (kd_tw ht)]
          rw [z4, drawC_spec (drw_lt _) s2_eq (by omega) (by omega), Bd_some]
          have hC2 : CE 37 n k E (st2 (st2 M1 0 15 (nI (drw (drw sd)))) 0 15 (nI (drw (drw (drw sd))))) := CE_c (fun o j _ _ => by rw [s2_ne (by omega), s2_ne (by omega)]) hC1
          obtain ⟨M2, g1, g2, g3⟩ := changeRopes_spec (r := drw (drw sd) / 65536 % ns) (q := drw (drw (drw sd)) / 65536 % ns) (by omega) (by omega) hC2 hn
          simp only [g1, Bd_some]
          exact ⟨M2, rfl, g2, by rw [g3 0 (by omega), s2_eq], fun o j q => by rw [g3 o (by omega), s2_at, if_neg (by omega), s2_at, if_neg (by omega), f1 o j (by omega)]⟩
      · rw [if_neg (show ¬ nI (drw sd / 65536 % 8) = (2 : Int32) from fun q => c2 ((nI_of8 w8 2 (by omega)).mp q)), if_neg (by omega), if_neg (by omega)]
        exact ⟨_, rfl, hC1, s1, fun o j q => f1 o j (by omega)⟩
theorem swE_self {r : Nat} {E : Nat → Nat} : swE r r E = E := by
  funext j
  unfold swE
  by_cases h : j = 11 + r
  · rw [if_pos h, h]
  · rw [if_neg h, if_neg h]
theorem chanceM_spec {ns sd : Nat} {E : Nat → Nat} {M : Mm} (hns : ns ≤ 6) (m18 : M 128 18 = nI ns) (hs : sd < 2 ^ 31) (h30 : M 128 30 = nI sd) (e3 : E 3 < 2) (hA : AR E (M 136)) : ∃ M', f_X12_chance 128 M = some M' ∧ AR (chE ns E sd) (M' 136) ∧ M' 128 30 = nI (chS ns sd) ∧ ∀ o j, ¬ (o = 136 ∨ (o = 128 ∧ j = 30)) → M' o j = M o j := by
  have hd := drw_lt sd
  have w8 := Nat.mod_lt (drw sd / 65536) (show 0 < 8 by omega)
  unfold f_X12_chance
  rw [show f_X12_draw 128 (8 : Int32) M = _ from drawM_spec (m := 8) hs h30 (by omega) (by omega), Bd_some]
  simp only [Lt_eq]
  have hA1 : AR E (st2 M 128 30 (nI (drw sd)) 136) := AR_c (fun j => by rw [s2_ne (by omega)]) hA
  have f1 : ∀ o j, ¬ (o = 128 ∧ j = 30) → st2 M 128 30 (nI (drw sd)) o j = M o j := fun o j q => by rw [s2_at, if_neg q]
  have s1 : st2 M 128 30 (nI (drw sd)) 128 30 = nI (drw sd) := s2_eq
  generalize st2 M 128 30 (nI (drw sd)) = M1 at hA1 f1 s1
  unfold chE chS
  by_cases c0 : drw sd / 65536 % 8 = 0
  · rw [c0, if_pos (show nI 0 = (0 : Int32) from rfl), Bd_some, if_neg (show ¬ nI 0 = (1 : Int32) by decide), Bd_some, if_neg (show ¬ nI 0 = (2 : Int32) by decide), if_pos rfl, if_neg (by omega), show ix (2 : Int32) = 2 by decide]
    exact ⟨_, rfl, AR_up (v := 1) hA1, by rw [s2_ne (by omega), s1], fun o j q => by rw [s2_ne (by omega), f1 o j (by omega)]⟩
  · rw [if_neg (show ¬ nI (drw sd / 65536 % 8) = (0 : Int32) from fun q => c0 ((nI_of8 w8 0 (by omega)).mp q)), if_neg c0, Bd_some]
    by_cases c1 : drw sd / 65536 % 8 = 1
    · rw [c1, if_pos (show nI 1 = (1 : Int32) from rfl), if_pos rfl, if_neg (by omega), Bd_some, if_neg (show ¬ nI 1 = (2 : Int32) by decide), show ix (3 : Int32) = 3 by decide, hA1 3 (by omega), show (1 : Int32) - nI (E 3) = nI (1 - E 3) from pk_sub (a := 1) (by omega)]
      exact ⟨_, rfl, AR_up hA1, by rw [s2_ne (by omega), s1], fun o j q => by rw [s2_ne (by omega), f1 o j (by omega)]⟩
    · rw [if_neg (show ¬ nI (drw sd / 65536 % 8) = (1 : Int32) from fun q => c1 ((nI_of8 w8 1 (by omega)).mp q)), if_neg c1, Bd_some]
      by_cases c2 : drw sd / 65536 % 8 = 2
      · rw [if_pos (show nI (drw sd / 65536 % 8) = (2 : Int32) by rw [c2]; rfl)]
        have z2 : M1 128 18 = nI ns := by rw [f1 128 18 (by omega)]; exact m18
        rw [z2]
        by_cases hz : ns = 0
        · subst hz
          rw [if_pos (show nI 0 ≤ 0 by decide), if_neg (by omega), if_neg (by omega)]
          exact ⟨_, rfl, hA1, s1, fun o j q => f1 o j (by omega)⟩
        · have a1 := Nat.mod_lt (drw (drw sd) / 65536) (show 0 < ns by omega)
          have a2 := Nat.mod_lt (drw (drw (drw sd)) / 65536) (show 0 < ns by omega)
          rw [if_neg (nI_nle (by omega) (by omega)), drawM_spec hd s1 (by omega) (by omega), Bd_some, if_pos ⟨c2, by omega⟩, if_pos ⟨c2, by omega⟩]
          have z4 : st2 M1 128 30 (nI (drw (drw sd))) 128 18 = nI ns := by rw [s2_nk (by omega)]; exact z2
          dsimp only
          rw [z4, drawM_spec (drw_lt _) s2_eq (by omega) (by omega), Bd_some]
          have hA2 : AR E (st2 (st2 M1 128 30 (nI (drw (drw sd)))) 128 30 (nI (drw (drw (drw sd)))) 136) := AR_c (fun j => by rw [s2_ne (by omega), s2_ne (by omega)]) hA1
          by_cases hrq : drw (drw sd) / 65536 % ns = drw (drw (drw sd)) / 65536 % ns
          · rw [hrq, if_pos rfl, swE_self]
            exact ⟨st2 (st2 M1 128 30 (nI (drw (drw sd)))) 128 30 (nI (drw (drw (drw sd)))), rfl, hA2, by rw [s2_eq], fun o j q => by rw [s2_at, if_neg (by omega), s2_at, if_neg (by omega), f1 o j (by omega)]⟩
          · obtain ⟨M2, g1, g2, g3⟩ := swaps_spec (r := drw (drw sd) / 65536 % ns) (q := drw (drw (drw sd)) / 65536 % ns) (by omega) (by omega) hA2
            rw [if_neg (fun e => hrq (nI_inj (by omega) (by omega) e))]
            simp only [g1, Bd_some]
            exact ⟨M2, rfl, g2, by rw [g3 128 (by omega), s2_eq], fun o j q => by rw [g3 o (by omega), s2_at, if_neg (by omega), s2_at, if_neg (by omega), f1 o j (by omega)]⟩
      · rw [if_neg (show ¬ nI (drw sd / 65536 % 8) = (2 : Int32) from fun q => c2 ((nI_of8 w8 2 (by omega)).mp q)), if_neg (by omega), if_neg (by omega)]
        exact ⟨_, rfl, hA1, s1, fun o j q => f1 o j (by omega)⟩
def dfI (n k ns C : Nat) (Me W S E : Nat → Nat) (sd : Nat) : Nat → (Nat → Nat) × Nat
  | 0 => (E, sd)
  | i + 1 => (ringE n k ns C Me W S (chE ns (dfI n k ns C Me W S E sd i).1 (dfI n k ns C Me W S E sd i).2), chS ns (dfI n k ns C Me W S E sd i).2)
theorem EQ_ring {n k ns C : Nat} {Me W S E : Nat → Nat} (hV : TV n k ns C Me W S) (hn : 0 < n) (h : EQ n k ns E) (hb : E 0 < 9200) : EQ n k ns (ringE n k ns C Me W S E) :=
  ⟨EV_ring hV hn h.1 (by omega), by rw [ringE_0]; omega, fun q => by omega⟩
theorem dfI_0 {n k ns C sd : Nat} {Me W S E : Nat → Nat} (hns : ns ≤ 6) : ∀ i, (dfI n k ns C Me W S E sd i).1 0 = E 0 + i
  | 0 => rfl
  | i + 1 => by
    show ringE n k ns C Me W S (chE ns (dfI n k ns C Me W S E sd i).1 (dfI n k ns C Me W S E sd i).2) 0 = _
    rw [ringE_0, chE_0 hns, dfI_0 hns i]; omega
theorem dfI_s {n k ns C sd : Nat} {Me W S E : Nat → Nat} (hs : sd < 2 ^ 31) : ∀ i, (dfI n k ns C Me W S E sd i).2 < 2 ^ 31
  | 0 => hs
  | i + 1 => chS_lt _ _
theorem EQ_dfI {n k ns C sd : Nat} {Me W S E : Nat → Nat} (hV : TV n k ns C Me W S) (hn : 0 < n) (hE : EQ n k ns E) : ∀ i, E 0 + i ≤ 9200 → EQ n k ns (dfI n k ns C Me W S E sd i).1
  | 0, _ => hE
  | i + 1, h => EQ_ring hV hn (EQ_ch (by have := hV.1; omega) (by have := hV.1; omega) (EQ_dfI hV hn hE i (by omega))) (by rw [chE_0 (by have := hV.1; omega), dfI_0 (by have := hV.1; omega)]; omega)
theorem driftL_spec {t n k ns C m sd : Nat} {Me W S E : Nat → Nat} {M : Mm} (h0 : M 0 0 = nI t) (hT : TW t n k ns C Me W S M) (hV : TV n k ns C Me W S) (hn : 0 < n) (hE : EQ n k ns E) (hm : E 0 + m ≤ 9200) (hC : CE 37 n k E M) (hs : sd < 2 ^ 31) (h16 : M 0 15 = nI sd) : ∃ M', Lp (b_X11_drift_27 0 (nI m)) 100000 ((0 : Int32), M) = some M' ∧ CE 37 n k (dfI n k ns C Me W S E sd m).1 M' ∧ M' 0 15 = nI (dfI n k ns C Me W S E sd m).2 ∧ ∀ o j, ¬ ((37 ≤ o ∧ o ≤ 40) ∨ (o = 0 ∧ j = 15)) → M' o j = M o j := by
  have ht := hT.1
  have hb := hV.1
  have key := Lp_inv (f := b_X11_drift_27 0 (nI m)) (fun s => ∃ i, i ≤ m ∧ s.1 = nI i ∧ CE 37 n k (dfI n k ns C Me W S E sd i).1 s.2 ∧ s.2 0 15 = nI (dfI n k ns C Me W S E sd i).2 ∧ ∀ o j, ¬ ((37 ≤ o ∧ o ≤ 40) ∨ (o = 0 ∧ j = 15)) → s.2 o j = M o j) (fun s => m - s.1.toNatClampNeg) (fun t => CE 37 n k (dfI n k ns C Me W S E sd m).1 t ∧ t 0 15 = nI (dfI n k ns C Me W S E sd m).2 ∧ ∀ o j, ¬ ((37 ≤ o ∧ o ≤ 40) ∨ (o = 0 ∧ j = 15)) → t o j = M o j) ?_ 100000 ((0 : Int32), M) ⟨0, by omega, rfl, hC, h16, fun _ _ _ => rfl⟩ (by show m - _ < _; omega)
  · exact key
  · rintro ⟨x, Mi⟩ ⟨i, hi, hx, hCi, hsi, hF⟩
    simp only at hx hCi hsi hF
    subst hx
    have hEi := EQ_dfI (sd := sd) hV hn hE i (by omega)
    have z : Mi 0 0 = nI t := by rw [hF 0 0 (by omega)]; exact h0
    obtain ⟨M1, g1, g2, g3, g4⟩ := chanceC_spec (ns := ns) ht z (by rw [hF t 2 (by omega)]; exact hT.2.2.2.1) (by omega) (by omega) (dfI_s hs i) hsi hEi.1.2.2.2.1 hCi
    have z1 : (M1 0 0).toNatClampNeg = t := by rw [g4 0 0 (by omega)]; exact tw_ref z ht
    unfold b_X11_drift_27
    simp only [Lt_eq]
    by_cases hin : i = m
    · subst hin
      exact Or.inr ⟨_, by rw [if_pos (nI_le (Nat.le_refl _) (by omega))], hCi, hsi, hF⟩
    · have hT1 : TW t n k ns C Me W S M1 := TW_c hV (fun o ho => funext fun j => by rw [g4 o j (by omega), hF o j (by omega)]) hT
      obtain ⟨M2, r1, r2, r3⟩ := ringNext_spec hT1 hV hn (EQ_ch (sd := (dfI n k ns C Me W S E sd i).2) (by omega) (by omega) hEi).1 g2 (by omega)
      refine Or.inl ⟨(nI (i + 1), M2), ?_, ⟨i + 1, by omega, rfl, r2, ?_, fun o j q => ?_⟩, ?_⟩
      · rw [if_neg (nI_ge (show i < m by omega) (by omega)), g1, Bd_some]
        simp only [z1, Gd_t (kd_tw ht)]
        rw [r1, Bd_some, nI_1]
      · show M2 0 15 = _
        rw [r3 0 (by omega) (by omega) (by omega)]
        exact g3
      · show M2 o j = _
        rw [r3 o (by omega) (by omega) (by omega), g4 o j q, hF o j q]
      · show m - (nI (i + 1)).toNatClampNeg < m - (nI i).toNatClampNeg
        rw [nI_clamp (by omega), nI_clamp (by omega)]
        omega
theorem driftM_spec {n k ns C m sd : Nat} {Me W S E : Nat → Nat} {M : Mm} (hM : MT n k ns C Me W S M) (hV : TV n k ns C Me W S) (hn : 0 < n) (hE : EQ n k ns E) (hm : E 0 + m ≤ 9200) (hA : AR E (M 136)) (hs : sd < 2 ^ 31) (h30 : M 128 30 = nI sd) : ∃ M', Lp (b_X12_drift_20 128 (nI m)) 100000 ((0 : Int32), M) = some M' ∧ AR (dfI n k ns C Me W S E sd m).1 (M' 136) ∧ M' 128 30 = nI (dfI n k ns C Me W S E sd m).2 ∧ ∀ o j, ¬ (o = 136 ∨ (o = 128 ∧ j = 30)) → M' o j = M o j := by
  have hb := hV.1
  have key := Lp_inv (f := b_X12_drift_20 128 (nI m)) (fun s => ∃ i, i ≤ m ∧ s.1 = nI i ∧ AR (dfI n k ns C Me W S E sd i).1 (s.2 136) ∧ s.2 128 30 = nI (dfI n k ns C Me W S E sd i).2 ∧ ∀ o j, ¬ (o = 136 ∨ (o = 128 ∧ j = 30)) → s.2 o j = M o j) (fun s => m - s.1.toNatClampNeg) (fun t => AR (dfI n k ns C Me W S E sd m).1 (t 136) ∧ t 128 30 = nI (dfI n k ns C Me W S E sd m).2 ∧ ∀ o j, ¬ (o = 136 ∨ (o = 128 ∧ j = 30)) → t o j = M o j) ?_ 100000 ((0 : Int32), M) ⟨0, by omega, rfl, hA, h30, fun _ _ _ => rfl⟩ (by show m - _ < _; omega)
  · exact key
  · rintro ⟨x, Mi⟩ ⟨i, hi, hx, hAi, hsi, hF⟩
    simp only at hx hAi hsi hF
    subst hx
    have hEi := EQ_dfI (sd := sd) hV hn hE i (by omega)
    obtain ⟨M1, g1, g2, g3, g4⟩ := chanceM_spec (ns := ns) (by omega) (by rw [hF 128 18 (by omega)]; exact hM.2.2.1) (dfI_s hs i) hsi hEi.1.2.2.2.1 hAi
    unfold b_X12_drift_20
    simp only [Lt_eq]
    by_cases hin : i = m
    · subst hin
      exact Or.inr ⟨_, by rw [if_pos (nI_le (Nat.le_refl _) (by omega))], hAi, hsi, hF⟩
    · have hM1 : MT n k ns C Me W S M1 := MT_p (fun o j q => by rw [g4 o j (by omega), hF o j (by omega)]) hM
      obtain ⟨M2, r1, r2, r3⟩ := rings_spec hV hn hM1 (EQ_ch (sd := (dfI n k ns C Me W S E sd i).2) (by omega) (by omega) hEi).1 g2 (by decide) (by omega)
      refine Or.inl ⟨(nI (i + 1), M2), ?_, ⟨i + 1, by omega, rfl, r2, ?_, fun o j q => ?_⟩, ?_⟩
      · rw [if_neg (nI_ge (show i < m by omega) (by omega)), g1, Bd_some, r1, Bd_some, nI_1]
      · show M2 128 30 = _
        rw [r3 128 (by omega)]
        exact g3
      · show M2 o j = _
        rw [r3 o (by omega), g4 o j q, hF o j q]
      · show m - (nI (i + 1)).toNatClampNeg < m - (nI i).toNatClampNeg
        rw [nI_clamp (by omega), nI_clamp (by omega)]
        omega
theorem op_drift {M : Mm} (x : Int32) (h : InvX M) : ∃ r M1 M2, f_X11_drift 0 x M = some (r, M1) ∧ f_X12_drift 128 x M1 = some (r, M2) ∧ InvX M2 := by
  obtain ⟨t, n, k, ns, C, Me, W, S, E, hI⟩ := id h
  obtain ⟨ht, h00, hkd, t0, t1, t2⟩ := inv_t hI
  obtain ⟨m16, m17, m18, m19⟩ := inv_m hI
  obtain ⟨n1, n2, n3, n4, n5⟩ := inv_n hI
  obtain ⟨⟨hV, z0, z1, hT, hM⟩, ⟨hE, hC, hA⟩, -, -, ⟨sd, s1, s2, s3⟩, -⟩ := id hI
  unfold f_X11_drift f_X12_drift
  rcases refuse_cases hI (show 60 < 2 ^ 31 by omega) x with ⟨m, a1, a2, rfl, hn, h9, c1, c2⟩ | ⟨r, hr, c1, c2⟩
  · rw [show f_X11_refuseToRing 0 (nI m) (60 : Int32) M = some 0 from c1, Bd_some, if_pos rfl]
    obtain ⟨M1, g1, g2, g3⟩ := rem_I hI
    rw [g1, Bd_some]
    have hC1 : CE 37 n k E M1 := CE_c (fun o j _ _ => by rw [g2 o (by omega)]) hC
    have z0' : M1 0 0 = nI t := by rw [g2 0 (by omega)]; exact z0
    obtain ⟨M1', a1', a2', a4', a3⟩ := driftL_spec (m := m) z0' (TW_c hV (fun o ho => g2 o (by omega)) hT) hV hn hE (by omega) hC1 s1 (by rw [g2 0 (by omega)]; exact s2)
    have hEm := EQ_dfI (sd := sd) hV hn hE m (by omega)
    have hw : ∀ p, p < n → (dfI n k ns C Me W S E sd m).1 (5 + p) < 8 := fun p hp => by have := hEm.1.2.2.2.2.2.1 p hp; omega
    rw [a1', Bd_some, figN_spec ht (by rw [a3 0 0 (by omega)]; exact z0') (by rw [a3 t 0 (by omega), g2 t (by omega)]; exact t0) n1 hw a2', Bd_some]
    have hx : ∀ o j, ¬ ((37 ≤ o ∧ o ≤ 106) ∨ (o = 0 ∧ j = 15)) → M1' o j = M o j := fun o j q => by rw [a3 o j (by omega), g2 o (by omega)]
    obtain ⟨M2, r1, r2, r3⟩ := g3 M1' (fun o j q => by rw [a3 o j (by omega)]) (fun o j q => hx o j (by omega))
    have hA2 : AR E (M2 136) := AR_c (fun j => by rw [r3 _ _ (by omega), hx _ _ (by omega)]) hA
    have hM2 : MT n k ns C Me W S M2 := MT_p (fun o j q => by rw [r3 o j (by omega), hx o j (by omega)]) hM
    obtain ⟨M3, b1, b2, b4, b3⟩ := driftM_spec (m := m) hM2 hV hn hE (by omega) hA2 s1 (by rw [r3 _ _ (by omega), hx _ _ (by omega)]; exact s3)
    have hf : ∀ o j, ¬ ((37 ≤ o ∧ o ≤ 106) ∨ o = 136 ∨ o = 138 ∨ (o = 128 ∧ j = 26) ∨ (o = 0 ∧ j = 15) ∨ (o = 128 ∧ j = 30)) → M3 o j = M o j := fun o j q => by rw [b3 o j (by omega), r3 o j (by omega), hx o j (by omega)]
    refine ⟨_, _, M3, rfl, ?_, t, n, k, ns, C, Me, W, S, (dfI n k ns C Me W S E sd m).1, Inv_ev (fun o j q => hf o j (by omega)) hI ⟨hEm, ?_, b2⟩ (IB_c (fun o j q => by rw [b3 o j (by omega)]) r2) ⟨(dfI n k ns C Me W S E sd m).2, dfI_s s1 m, by rw [b3 0 15 (by omega), r3 0 15 (by omega)]; exact a4', b4⟩⟩
    · rw [show f_X12_noRows 128 (nI m) (60 : Int32) M1' = some 0 from c2 M1' (by rw [hx _ _ (by omega)]; exact m16) (by rw [hx _ _ (by omega)]; exact hA 0 (by omega)), Bd_some, if_pos rfl, r1, Bd_some, b1, Bd_some, figOf_spec (by rw [hf _ _ (by omega)]; exact m16) n1 (by decide) (fun p hp => b2 (5 + p) (by omega)), Bd_some]
    · exact CE_c (fun o j _ _ => by rw [b3 o j (by omega), r3 o j (by omega)]) a2'
  · rw [show f_X11_refuseToRing 0 x (60 : Int32) M = some r from c1, Bd_some, if_neg hr]
    exact ⟨_, _, _, rfl, by rw [show f_X12_noRows 128 x (60 : Int32) M = some r from c2, Bd_some, if_neg hr], h⟩
