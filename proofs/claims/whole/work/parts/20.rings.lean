def lI (o : Option Nat) : Int32 := match o with
  | none => -1
  | some r => nI r
theorem lstR_lt {E : Nat → Nat} {b r : Nat} : ∀ {ns : Nat}, lstR E b ns = some r → r < ns ∧ E (11 + r) = b
  | 0, h => by cases h
  | ns + 1, h => by
    unfold lstR at h
    by_cases hx : E (11 + ns) = b
    · rw [if_pos hx] at h
      cases h
      exact ⟨by omega, hx⟩
    · rw [if_neg hx] at h
      have := lstR_lt h
      exact ⟨by omega, this.2⟩
theorem cntI_le (x : Nat) : ∀ ns, cntI x ns ≤ ns
  | 0 => Nat.le_refl 0
  | ns + 1 => by
    have := cntI_le x ns
    unfold cntI
    split <;> omega
theorem pow_ns {ns : Nat} (h : ns ≤ 6) : 2 ^ ns ≤ 64 := by
  have : 2 ^ ns ≤ 2 ^ 6 := Nat.pow_le_pow_right (by omega) h
  omega
theorem goesOut_spec {M : Mm} {n k ns C o1 : Nat} {Me W S E : Nat → Nat} (hV : TV n k ns C Me W S) (hn : 0 < n) (hM : MT n k ns C Me W S M) (h4 : E 4 < 2 ^ ns) (hP : ∀ r, r < ns → E (11 + r) < 8) (hR : ∀ p, p < n → E (5 + p) < 8) (hA : AR E (M o1)) (hl : kln o1 = 23) : ∃ M', f_X12_goesOut 128 o1 M = some M' ∧ AR (outE n ns E) (M' o1) ∧ ∀ o, o ≠ o1 → M' o = M o := by
  obtain ⟨hb, -⟩ := hV
  obtain ⟨m16, m17, m18, -⟩ := hM
  have hns : ns ≤ 6 := by omega
  have hn6 : n ≤ 6 := by omega
  have h64 := pow_ns hns
  have a4 : M o1 4 = nI (E 4) := hA 4 (by omega)
  have hrw := hR (n - 1) (by omega)
  rw [show 5 + (n - 1) = 5 + n - 1 by omega] at hrw
  have aL : M o1 (5 + n - 1) = nI (E (5 + n - 1)) := hA _ (by omega)
  have e5 : ((5 : Int32) + nI n) - (1 : Int32) = nI (5 + n - 1) := by
    rw [show (5 : Int32) + nI n = nI (5 + n) from nI_add 5 n]
    exact pk_sub (b := 1) (by omega)
  have i4 : ix (4 : Int32) = 4 := by decide
  have b4 : ib (4 : Int32) (kln o1) := by rw [hl]; decide
  have loop : Lp (b_X12_goesOut_7 128 o1 M) 100000 ((0 : Int32), (-1 : Int32), (0 : Int32)) = some (nI (cntI (E 4) ns), lI (lstR E (E (5 + n - 1)) ns)) := by
    refine Lp_from (fun i => (nI (cntI (E 4) i), lI (lstR E (E (5 + n - 1)) i), nI i)) ns _ rfl ?_ ?_ (by omega)
    · intro i hi
      unfold b_X12_goesOut_7
      simp only [Lt_eq]
      have a11 : M o1 (11 + i) = nI (E (11 + i)) := hA _ (by omega)
      have hp := hP i hi
      rw [m18, if_neg (nI_ge hi (by omega)), Gd_t b4, m16, e5, i4, show (11 : Int32) + nI i = nI (11 + i) from nI_add 11 i, Gd_t ((ib_nI (by omega)).mpr (by omega)), Gd_t ((ib_nI (by omega)).mpr (by omega)), ix_nI (i := 11 + i) (by omega), ix_nI (i := 5 + n - 1) (by omega), a4, a11, aL, has_nI (by omega) (by omega), nI_1]
      have c1 : (nI (cntI (E 4) i) + if (if (E 4).testBit i = true then (1 : Int32) else 0) = 0 then (1 : Int32) else 0) = nI (cntI (E 4) (i + 1)) := by
        show _ = nI (cntI (E 4) i + if (E 4).testBit i then 0 else 1)
        cases (E 4).testBit i with
        | true => exact nI_add _ 0
        | false => exact nI_add _ 1
      have c2 : (if nI (E (11 + i)) = nI (E (5 + n - 1)) then nI i else lI (lstR E (E (5 + n - 1)) i)) = lI (lstR E (E (5 + n - 1)) (i + 1)) := by
        show _ = lI (if E (11 + i) = E (5 + n - 1) then some i else lstR E (E (5 + n - 1)) i)
        by_cases hx : E (11 + i) = E (5 + n - 1)
        · rw [if_pos hx, if_pos (by rw [hx])]
          rfl
        · rw [if_neg hx, if_neg (fun e => hx (nI_inj (by omega) (by omega) e))]
      rw [c1, c2]
    · unfold b_X12_goesOut_7
      simp only
      rw [m18, if_pos (nI_le (Nat.le_refl _) (by omega))]
  unfold f_X12_goesOut
  rw [loop, Bd_some]
  simp only [Lt_eq, Gd_t b4]
  rw [i4, a4]
  have hcn := cntI_le (E 4) ns
  unfold outE
  cases hls : lstR E (E (5 + n - 1)) ns with
  | none =>
    refine ⟨st2 M o1 4 (nI (E 4)), ?_, ?_, fun o ho => s2_ne ho⟩
    · simp only [lI, if_true]
      split <;> rfl
    · intro j hj
      by_cases h : j = 4
      · subst h; rw [s2_eq]
      · rw [s2_nk h]; exact hA j hj
  | some r =>
    have hr := (lstR_lt hls).1
    rw [if_neg (show ¬ lI (some r) = (-1 : Int32) from nI_m1 (show r < 2 ^ 31 by omega)), show lI (some r) = nI r from rfl, show (1 : Int32) = nI 1 from rfl]
    show ∃ M', _ ∧ AR (if 1 < cntI (E 4) ns then up1 E 4 (E 4 ||| 2 ^ r) else E) _ ∧ _
    have h2r : 2 ^ r ≤ 64 := pow_ns (by omega)
    by_cases hc : 1 < cntI (E 4) ns
    · rw [if_neg (nI_ge hc (by omega)), sl_nI (by omega) (by omega), nI_or, Nat.one_mul, if_pos hc, Bd_some]
      exact ⟨_, rfl, AR_up hA, fun o ho => s2_ne ho⟩
    · rw [if_pos (nI_le (by omega) (by omega)), if_neg hc, Bd_some]
      refine ⟨_, rfl, fun j hj => ?_, fun o ho => s2_ne ho⟩
      by_cases h : j = 4
      · subst h; rw [s2_eq]
      · rw [s2_nk h]; exact hA j hj
theorem rings_spec {M : Mm} {n k ns C o1 : Nat} {Me W S E : Nat → Nat} (hV : TV n k ns C Me W S) (hn : 0 < n) (hM : MT n k ns C Me W S M) (hE : EV n k ns E) (hA : AR E (M o1)) (hl : kln o1 = 23) (ho : 135 < o1) : ∃ M', f_X12_rings 128 o1 M = some M' ∧ AR (ringE n k ns C Me W S E) (M' o1) ∧ ∀ o, o ≠ o1 → M' o = M o := by
  have hV0 := hV
  obtain ⟨hb, hC1, hC2, hMe, hW, hS⟩ := hV
  obtain ⟨m16, m17, m18, m19, mMe, mW, mS⟩ := hM
  have hE0 := hE
  obtain ⟨e0, e1, e2, e3, e4, eR, eI, eP, eJ, eT⟩ := hE
  have hns : ns ≤ 6 := by omega
  have hn6 : n ≤ 6 := by omega
  have hk : 0 < k ∧ k ≤ 12 := by omega
  have h2n : 2 ^ n ≤ 64 := pow_ns hn6
  have hat : E 1 % k < k := Nat.mod_lt _ hk.1
  have a1 : M o1 1 = nI (E 1) := hA 1 (by omega)
  have a2 : M o1 2 = nI (E 2) := hA 2 (by omega)
  have b1 : ib (1 : Int32) (kln o1) := by rw [hl]; decide
  have b2 : ib (2 : Int32) (kln o1) := by rw [hl]; decide
  have b0 : ib (0 : Int32) (kln o1) := by rw [hl]; decide
  have i1 : ix (1 : Int32) = 1 := by decide
  have i2 : ix (2 : Int32) = 2 := by decide
  have i0 : ix (0 : Int32) = 0 := by decide
  have i135 : 134 ≠ o1 := by omega
  unfold f_X12_rings
  simp only [Lt_eq, Gd_t b1, Gd_t b2, Gd_t b0, i1, i2, i0]
  rw [Gd_t (by rw [m17]; exact nI_ne0 hk.1 (by omega))]
  rw [m17, a1, rm_nI (by omega) hk.1 (by omega), a2, m19]
  have hsel : ∃ c, c = (if E 2 = 1 then C else Me (E 1 % k)) ∧ (if nI (E 2) = (1 : Int32) then some (nI C) else Gd (ib (nI (E 1 % k)) 12) (some (M 134 (ix (nI (E 1 % k)))))) = some (nI c) ∧ c < 2 ^ n ∧ isC n c = true := by
    refine ⟨_, rfl, ?_, ?_⟩
    · rcases (show E 2 = 0 ∨ E 2 = 1 by omega) with h | h
      · rw [h, if_neg (by decide), if_neg (by decide), Gd_t ((ib_nI (by omega)).mpr (by omega)), ix_nI (by omega), mMe _ hat]
      · rw [h, if_pos (by decide), if_pos rfl]
    · split
      · exact ⟨hC1, hC2⟩
      · exact hMe _ hat
  obtain ⟨c, hc, hc2, hc3, hc4⟩ := hsel
  rw [hc2, Bd_some, changes_spec hn6 (by omega) hc4 m16 hl (by omega), Bd_some]
  have hA1 : AR (rowE c n E) ((stA M o1 (chR c n (M o1))) o1) := by rw [stA_self]; exact AR_row hn6 hA hc4
  have f1 : ∀ o, o ≠ o1 → stA M o1 (chR c n (M o1)) o = M o := fun o ho => stA_ne ho
  generalize stA M o1 (chR c n (M o1)) = M1 at hA1 f1 ⊢
  have hA2 := AR_up (i := 2) (v := 0) hA1
  have f2 : ∀ o, o ≠ o1 → st2 M1 o1 2 (nI 0) o = M o := fun o ho => (s2_ne ho).trans (f1 o ho)
  rw [show (0 : Int32) = nI 0 from rfl]
  generalize st2 M1 o1 2 (nI 0) = M2 at hA2 f2 ⊢
  have r1 : M2 o1 1 = nI (E 1) := (hA2 1 (by omega)).trans (by simp [up1, rowE])
  rw [r1, nI_1]
  have hA3 := AR_up (i := 1) (v := E 1 + 1) hA2
  have f3 : ∀ o, o ≠ o1 → st2 M2 o1 1 (nI (E 1 + 1)) o = M o := fun o ho => (s2_ne ho).trans (f2 o ho)
  generalize st2 M2 o1 1 (nI (E 1 + 1)) = M3 at hA3 f3 ⊢
  have r0 : M3 o1 0 = nI (E 0) := (hA3 0 (by omega)).trans (by simp [up1, rowE])
  rw [r0, nI_1]
  have hA4 := AR_up (i := 0) (v := E 0 + 1) hA3
  have f4 : ∀ o, o ≠ o1 → st2 M3 o1 0 (nI (E 0 + 1)) o = M o := fun o ho => (s2_ne ho).trans (f3 o ho)
  generalize st2 M3 o1 0 (nI (E 0 + 1)) = M4 at hA4 f4 ⊢
  have hMT : ∀ M', (∀ o, o ≠ o1 → M' o = M o) → MT n k ns C Me W S M' := fun M' hf => ⟨by rw [hf 128 (by omega)]; exact m16, by rw [hf 128 (by omega)]; exact m17, by rw [hf 128 (by omega)]; exact m18, by rw [hf 128 (by omega)]; exact m19, by rw [hf 134 (by omega)]; exact mMe, by rw [hf 133 (by omega)]; exact mW, by rw [hf 135 (by omega)]; exact mS⟩
  have g2 : ∀ j, 10 < j → up1 (up1 (up1 (rowE c n E) 2 0) 1 (E 1 + 1)) 0 (E 0 + 1) j = E j := fun j hj => by
    simp only [up1, rowE]
    rw [if_neg (by omega), if_neg (by omega), if_neg (by omega), if_neg (by omega)]
  have g3 : ∀ j, 3 ≤ j → j < 5 → up1 (up1 (up1 (rowE c n E) 2 0) 1 (E 1 + 1)) 0 (E 0 + 1) j = E j := fun j hj hj2 => by
    simp only [up1, rowE]
    rw [if_neg (by omega), if_neg (by omega), if_neg (by omega), if_neg (by omega)]
  have g4 : ∀ p, p < n → up1 (up1 (up1 (rowE c n E) 2 0) 1 (E 1 + 1)) 0 (E 0 + 1) (5 + p) = E (5 + pm c p) := fun p hp => by
    simp only [up1, rowE]
    rw [if_neg (by omega), if_neg (by omega), if_neg (by omega), if_pos (by omega), show 5 + p - 5 = p by omega]
  obtain ⟨M5, h5, hA5, f5⟩ := tire_loop2 hV0 (hMT M4 f4) (E := up1 (up1 (up1 (rowE c n E) 2 0) 1 (E 1 + 1)) 0 (E 0 + 1)) (by rw [g3 3 (by omega) (by omega)]; exact e3) (by rw [g3 4 (by omega) (by omega)]; exact e4) (fun r hr => by rw [g2 _ (by omega)]; exact eP r hr) (fun r hr => by rw [g2 _ (by omega)]; exact eT r hr) hA4 hl ho
  rw [show Lp (b_X12_rings_54 128 o1) 100000 (nI 0, M4) = some M5 from h5, Bd_some, f5 128 (by omega), f4 128 (by omega), m17]
  have hkm : nI k - (1 : Int32) = nI (k - 1) := pk_sub (b := 1) (by omega)
  rw [hkm]
  have hring : ringE n k ns C Me W S E = if E 1 % k = k - 1 then outE n ns (tirE W S ns (up1 (up1 (up1 (rowE c n E) 2 0) 1 (E 1 + 1)) 0 (E 0 + 1))) else tirE W S ns (up1 (up1 (up1 (rowE c n E) 2 0) 1 (E 1 + 1)) 0 (E 0 + 1)) := by rw [hc]; rfl
  rw [hring]
  have t1 : ∀ j, j < 17 → tirE W S ns (up1 (up1 (up1 (rowE c n E) 2 0) 1 (E 1 + 1)) 0 (E 0 + 1)) j = up1 (up1 (up1 (rowE c n E) 2 0) 1 (E 1 + 1)) 0 (E 0 + 1) j := fun j hj => by rw [tirE, if_neg (by omega)]
  by_cases hx : E 1 % k = k - 1
  · rw [hx, if_pos rfl, if_pos rfl]
    obtain ⟨M6, h6, hA6, f6⟩ := goesOut_spec hV0 hn (hMT M5 (fun o ho => (f5 o ho).trans (f4 o ho))) (E := tirE W S ns (up1 (up1 (up1 (rowE c n E) 2 0) 1 (E 1 + 1)) 0 (E 0 + 1))) (by rw [t1 4 (by omega), g3 4 (by omega) (by omega)]; exact e4) (fun r hr => by rw [t1 _ (by omega), g2 _ (by omega)]; have := eP r hr; omega) (fun p hp => by rw [t1 _ (by omega), g4 p hp]; have := eR _ (pm_lt hc4 hp); omega) hA5 hl
    rw [h6, Bd_some]
    exact ⟨M6, rfl, hA6, fun o ho => (f6 o ho).trans ((f5 o ho).trans (f4 o ho))⟩
  · rw [if_neg (fun e => hx (nI_inj (by omega) (by omega) e)), if_neg hx]
    exact ⟨M5, rfl, hA5, fun o ho => (f5 o ho).trans (f4 o ho)⟩
