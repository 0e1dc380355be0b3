/-! clause m -/
def mtT (e14 : Mm) : Option (Int32 × Mm) := (if (e14 128 4) = (59 : Int32) then some ((1 : Int32), e14) else Bd (f_X12_fails 128 (1 : Int32) e14) (fun r16 => (if r16.1 = 0 then some ((0 : Int32), r16.2) else some ((1 : Int32), r16.2))))
theorem kd_draft {dt j : Nat} (h : dt = 1 ∨ dt = 18) (hj : j < 12) : KDF[(dt + 2) + 3 + j]? = some (0, 0) := by
  rw [show (dt + 2) + 3 + j = dt + 5 + j by omega]; exact kd_ch h hj
theorem enterM {dt n j ns v : Nat} {cl : Option Nat} {W Me S : Nat → Nat} {M : Mm} (h : PTc dt n j ns cl W Me S M) (hn : n ≤ 6) (hj : j < 12) (hv : v < 2 ^ n) : (isC n v = true → ∃ M', f_X7_enter (nI 109) (nI v) dt M = some (1, M') ∧ PTc dt n (j + 1) ns cl W (fun i => if i = j then v else Me i) S M' ∧ ∀ o i, ¬ ((o = dt ∧ i = 1) ∨ o = dt + 5 + j) → M' o i = M o i) ∧ (isC n v = false → f_X7_enter (nI 109) (nI v) dt M = some (0, M)) := by
  obtain ⟨c0, c2, c3, c4, c5, c6, c7, c8, c9⟩ := h
  have hg : ib (M dt 1) 12 := by rw [c3]; exact (ib_nI (by omega)).mpr hj
  have hkd : KDF[(dt + 2) + 3 + ix (M dt 1)]? = some (0, 0) := by rw [c3, ix_nI (by omega)]; exact kd_draft c0 hj
  have hadd : f_X7_enter (nI 109) (nI v) dt M = Bd (Bd (f_X0_become ((dt + 2) + 3 + j) (nI v) (nI n) M) (fun r4 => (if r4.1 = 0 then some ((0 : Int32), r4.2) else some ((1 : Int32), st2 r4.2 dt 1 ((r4.2 dt 1) + (1 : Int32)))))) (fun r6 => Gd (zb r6.1) (some (r6.1, r6.2))) := by
    unfold f_X7_enter f_X9_addChange
    simp only [Lt_eq]
    rw [if_neg (show ¬ nI 109 = (98 : Int32) by decide), if_pos (show nI 109 = (109 : Int32) from rfl), if_neg (show ¬ (12 : Int32) ≤ M dt 1 by rw [c3]; exact nI_ge (b := 12) hj (by omega)), Gd_t hg, Gd_t hkd, c3, ix_nI (by omega), c2]
  refine ⟨fun hc => ?_, fun hc => ?_⟩
  · obtain ⟨M1, g1, g2, g3⟩ := become_1 (o := (dt + 2) + 3 + j) (M := M) (show n < 7 by omega) hv hc
    rw [hadd, g1, Bd_some, if_neg one_ne]
    dsimp only
    rw [g3 dt (by omega), c3, nI_1, Bd_some]
    dsimp only
    rw [Gd_t (Or.inr rfl)]
    have hf : ∀ o i, ¬ ((o = dt ∧ i = 1) ∨ o = dt + 5 + j) → st2 M1 dt 1 (nI (j + 1)) o i = M o i := fun o i g => by rw [s2_at, if_neg (by omega), g3 o (by omega)]
    refine ⟨_, rfl, ⟨c0, by rw [hf _ _ (by omega)]; exact c2, s2_eq, by rw [hf _ _ (by omega)]; exact c4, by rw [hf _ _ (by omega)]; exact c5, fun i hi => by rw [hf _ _ (by omega)]; exact c6 i hi, fun i hi => ?_, fun i hi => by rw [hf _ _ (by omega)]; exact c8 i hi, fun c hcc => CHr_c (fun i => hf _ i (by omega)) (c9 c hcc)⟩, hf⟩
    show CHr n (if i = j then v else Me i) _
    by_cases e : i = j
    · rw [if_pos e, e]
      refine CHr_c (fun x => ?_) g2
      rw [s2_ne (by omega), show (dt + 2) + 3 + j = dt + 5 + j by omega]
    · rw [if_neg e]
      exact CHr_c (fun x => hf _ x (by omega)) (c7 i (by omega))
  · rw [hadd, become_0 (show n < 7 by omega) hv hc, Bd_some, if_pos rfl, Bd_some]
    dsimp only
    rw [Gd_t (Or.inl rfl)]
/-- a round of readClause's loop that ends with an odd run -/
theorem rc_odd {dt wd told v q f : Nat} {Mc M1 M2 : Mm} (hto : told ≤ mostW wd) (r1 : f_X7_readNumber 35 (nI wd) dt Mc = some (nI v, M1)) (r6 : M1 35 5 = 0) (e1 : f_X7_enter (nI wd) (nI v) dt M1 = some (0, M2)) (r5 : M2 35 4 = nI q) (hf : 2 ≤ f) : Lp (b_X7_readClause_47 35 dt (nI wd) (nI (mostW wd))) f ((1 : Int32), nI told, Mc) = some (st2 (st2 M2 35 5 (4 : Int32)) 35 1 (nI q)) := by
  have hm := mostW_le wd
  obtain ⟨f', rfl⟩ : ∃ f', f = f' + 2 := ⟨f - 2, by omega⟩
  have hne : ¬ st2 (st2 M2 35 5 (4 : Int32)) 35 1 (nI q) 35 5 = 0 := by rw [s2_nk (by omega), s2_eq]; decide
  have s1 : b_X7_readClause_47 35 dt (nI wd) (nI (mostW wd)) ((1 : Int32), nI told, Mc) = some (.inl ((0 : Int32), nI (told + 1), st2 (st2 M2 35 5 (4 : Int32)) 35 1 (nI q))) := by
    unfold b_X7_readClause_47 f_X7_fail
    simp only [Lt_eq]
    rw [if_neg (nI_nlt hto (by omega)), if_neg one_ne, r1, Bd_some]
    dsimp only
    rw [if_pos r6, e1, Bd_some, if_pos rfl]
    dsimp only
    rw [r5, Bd_some, Bd_some, if_neg hne, Bd_some, nI_1]
  rw [Lp_s s1, Lp_e rc_end]
/-- the reference's number that must be a change -/
theorem partR {n v : Nat} {Mr : Mm} (hn : n ≤ 6) (h9 : Mr 128 9 = nI n) : (∀ M1, f_X12_isNumber 128 (nI 0) (nI (2 ^ n - 1)) Mr = some (0, M1) → f_X12_isPart 128 Mr = some (0, M1)) ∧ (∀ M1, f_X12_isNumber 128 (nI 0) (nI (2 ^ n - 1)) Mr = some (1, M1) → M1 128 5 = nI v → M1 128 9 = nI n → v < 2 ^ n → f_X12_isPart 128 Mr = (if isC n v = true then some (1, M1) else some (0, st2 (st2 M1 128 7 (M1 128 3)) 128 8 (4 : Int32)))) := by
  have h64 := pow_ns hn
  have hall : (sl (1 : Int32) (Mr 128 9)) - (1 : Int32) = nI (2 ^ n - 1) := by rw [h9, all_spec n (by omega)]
  refine ⟨fun M1 h => ?_, fun M1 h h5 h9' hv => ?_⟩
  · unfold f_X12_isPart
    rw [hall, show f_X12_isNumber 128 (0 : Int32) (nI (2 ^ n - 1)) Mr = some (0, M1) from h, Bd_some, if_pos rfl]
  · unfold f_X12_isPart
    rw [hall, show f_X12_isNumber 128 (0 : Int32) (nI (2 ^ n - 1)) Mr = some (1, M1) from h, Bd_some, if_neg one_ne]
    dsimp only
    rw [h5, h9', isChange_spec n (by omega) v (by omega) hv, Bd_some]
    by_cases c : isC n v = true
    · rw [if_pos c, if_pos c, if_neg one_ne]
    · rw [if_neg c, if_neg c, if_pos rfl, failsR, Bd_some]
      dsimp only
      rw [if_pos rfl]
