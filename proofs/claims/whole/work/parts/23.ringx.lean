def E1f (n k C : Nat) (Me E : Nat → Nat) : Nat → Nat := up1 (up1 (up1 (rowE (if E 2 = 1 then C else Me (E 1 % k)) n E) 2 0) 1 (E 1 + 1)) 0 (E 0 + 1)
theorem ringE_eq (n k ns C : Nat) (Me W S E : Nat → Nat) : ringE n k ns C Me W S E = if E 1 % k = k - 1 then outE n ns (tirE W S ns (E1f n k C Me E)) else tirE W S ns (E1f n k C Me E) := rfl
theorem outE_ne {n ns j : Nat} {E : Nat → Nat} (h : j ≠ 4) : outE n ns E j = E j := by
  unfold outE
  cases lstR E (E (5 + n - 1)) ns with
  | none => rfl
  | some r =>
    show (if 1 < cntI (E 4) ns then up1 E 4 (E 4 ||| 2 ^ r) else E) j = E j
    by_cases hc : 1 < cntI (E 4) ns
    · rw [if_pos hc, up1, if_neg h]
    · rw [if_neg hc]
theorem outE_4 {n ns : Nat} {E : Nat → Nat} : outE n ns E 4 = match losE n ns E with
    | none => E 4
    | some r => E 4 ||| 2 ^ r := by
  unfold outE losE
  cases lstR E (E (5 + n - 1)) ns with
  | none => rfl
  | some r =>
    show (if 1 < cntI (E 4) ns then up1 E 4 (E 4 ||| 2 ^ r) else E) 4 = match (if (E 4).testBit r = true then none else if 1 < cntI (E 4) ns then some r else none) with
      | none => E 4
      | some r => E 4 ||| 2 ^ r
    cases hb : (E 4).testBit r with
    | true =>
      rw [if_pos rfl]
      by_cases hc : 1 < cntI (E 4) ns
      · rw [if_pos hc, up1, if_pos rfl, or_set hb]
      · rw [if_neg hc]
    | false =>
      rw [if_neg (show ¬ false = true by decide)]
      by_cases hc : 1 < cntI (E 4) ns
      · rw [if_pos hc, if_pos hc, up1, if_pos rfl]
      · rw [if_neg hc, if_neg hc]
theorem ringNext_spec {e t n k ns C : Nat} {Me W S E : Nat → Nat} {M : Mm} (hT : TW t n k ns C Me W S M) (hV : TV n k ns C Me W S) (hn : 0 < n) (hE : EV n k ns E) (hC : CE e n k E M) (he : 37 ≤ e) : ∃ M', f_X1_ringNext e t M = some M' ∧ CE e n k (ringE n k ns C Me W S E) M' ∧ ∀ o, o ≠ e → o ≠ e + 1 → o ≠ e + 3 → M' o = M o := by
  have hV0 := hV
  obtain ⟨hbd, -⟩ := hV
  obtain ⟨e0, e1, e2, e3, e4, eR, eI, eP, eJ, eT⟩ := hE
  obtain ⟨c1, c2, c3, cW, cR, cT⟩ := hC
  have hk : 0 < k ∧ k ≤ 12 := by omega
  have hns : ns ≤ 6 := by omega
  have h64 := pow_ns hns
  have ht : t = 1 ∨ t = 18 := hT.1
  have hcm : E 1 % k < k := Nat.mod_lt _ hk.1
  have frT : ∀ M', (∀ o, o < 37 → M' o = M o) → TW t n k ns C Me W S M' := by
    intro M' hf
    obtain ⟨g0, g1, g2, g3, g4, g5, g6, g7⟩ := hT
    refine ⟨g0, by rw [hf t (by omega)]; exact g1, by rw [hf t (by omega)]; exact g2, by rw [hf t (by omega)]; exact g3, fun h => by rw [hf (t + 1) (by omega)]; exact g4 h, fun i hi => ?_, fun i hi => by rw [hf (t + 3) (by omega)]; exact g6 i hi, fun i hi => by rw [hf (t + 4) (by omega)]; exact g7 i hi⟩
    rw [hf (t + 5 + i) (by omega)]; exact g5 i hi
  obtain ⟨M1, s1, ⟨w0, w1, w2⟩, f1⟩ := step_spec (wo := e + 1) hT hV0 hn cW hcm e2 (fun p hp => by have := eR p hp; omega) (by omega)
  unfold f_X1_ringNext
  rw [s1, Bd_some, Lt_eq, f1 e (by omega), c1, nI_1]
  have hc4 : isC n (if E 2 = 1 then C else Me (E 1 % k)) = true := by
    split
    · exact hV0.2.2.1
    · exact (hV0.2.2.2.1 _ hcm).2
  have f2 : ∀ o, o ≠ e → o ≠ e + 1 → st2 M1 e 1 (nI (E 0 + 1)) o = M o := fun o h1 h2 => (s2_ne h1).trans (f1 o h2)
  have q1 : st2 M1 e 1 (nI (E 0 + 1)) e 1 = nI (E 0 + 1) := s2_eq
  have q2 : ∀ j, j ≠ 1 → st2 M1 e 1 (nI (E 0 + 1)) e j = M e j := fun j hj => (s2_nk hj).trans (by rw [f1 e (by omega)])
  have q3 : st2 M1 e 1 (nI (E 0 + 1)) (e + 1) = M1 (e + 1) := s2_ne (by omega)
  generalize st2 M1 e 1 (nI (E 0 + 1)) = M2 at f2 q1 q2 q3 ⊢
  have g2 : ∀ j, 10 < j → E1f n k C Me E j = E j := fun j hj => by
    simp only [E1f, up1, rowE]
    rw [if_neg (by omega), if_neg (by omega), if_neg (by omega), if_neg (by omega)]
  have g3 : ∀ j, 3 ≤ j → j < 5 → E1f n k C Me E j = E j := fun j hj hj2 => by
    simp only [E1f, up1, rowE]
    rw [if_neg (by omega), if_neg (by omega), if_neg (by omega), if_neg (by omega)]
  have g4 : ∀ p, p < n → E1f n k C Me E (5 + p) = E (5 + pm (if E 2 = 1 then C else Me (E 1 % k)) p) := fun p hp => by
    simp only [E1f, up1, rowE]
    rw [if_neg (by omega), if_neg (by omega), if_neg (by omega), if_pos (by omega), show 5 + p - 5 = p by omega]
  obtain ⟨M3, s3, t3, f3⟩ := tireAll_spec (e := e) (E := E1f n k C Me E) (frT M2 (fun o ho => f2 o (by omega) (by omega))) hV0 (by rw [q2 2 (by omega), g3 4 (by omega) (by omega)]; exact c2) (by rw [q2 3 (by omega), g3 3 (by omega) (by omega)]; exact c3) (by rw [g3 3 (by omega) (by omega)]; exact e3) (by rw [g3 4 (by omega) (by omega)]; exact e4) (fun r hr => by rw [f2 (e + 2) (by omega) (by omega), g2 _ (by omega)]; exact cR r hr) (fun r hr => by rw [f2 (e + 3) (by omega) (by omega), g2 _ (by omega)]; exact cT r hr) (fun r hr => by rw [g2 _ (by omega)]; exact eP r hr) (fun r hr => by rw [g2 _ (by omega)]; exact eT r hr) he
  rw [s3, Bd_some]
  have t1 : ∀ j, j < 17 → tirE W S ns (E1f n k C Me E) j = E1f n k C Me E j := fun j hj => by rw [tirE, if_neg (by omega)]
  have x1 : M3 (e + 1) = M1 (e + 1) := (f3 _ (by omega)).trans q3
  have x0 : M3 e = M2 e := f3 e (by omega)
  -- the evening behind the tiring
  have base : ∀ (E' : Nat → Nat) (M' : Mm), (∀ j, j ≠ 4 → E' j = tirE W S ns (E1f n k C Me E) j) → M' e 2 = nI (E' 4) → (∀ j, j ≠ 2 → M' e j = M3 e j) → (∀ o, o ≠ e → M' o = M3 o) → CE e n k E' M' ∧ ∀ o, o ≠ e → o ≠ e + 1 → o ≠ e + 3 → M' o = M o := by
    intro E' M' hE' h4 h5 h6
    refine ⟨⟨?_, h4, ?_, ⟨?_, ?_, ?_⟩, fun r hr => ?_, fun r hr => ?_⟩, fun o h1 h2 h3 => by rw [h6 o h1, f3 o h3, f2 o h1 h2]⟩
    · rw [h5 1 (by omega), x0, q1, hE' 0 (by omega), t1 0 (by omega)]
      rfl
    · rw [h5 3 (by omega), x0, q2 3 (by omega), c3, hE' 3 (by omega), t1 3 (by omega), g3 3 (by omega) (by omega)]
    · rw [h6 _ (by omega), x1, w0]
      congr 1
      refine enc_congr _ _ _ (fun p hp => ?_)
      show E (5 + pm _ p) = E' (5 + p)
      rw [hE' _ (by omega), t1 _ (by omega), g4 p hp]
    · rw [h6 _ (by omega), x1, w1, hE' 1 (by omega), t1 1 (by omega), nxc_mod hk.1]
      rfl
    · rw [h6 _ (by omega), x1, w2, hE' 2 (by omega), t1 2 (by omega)]
      rfl
    · rw [h6 _ (by omega), f3 _ (by omega), f2 _ (by omega) (by omega), hE' _ (by omega), t1 _ (by omega), g2 _ (by omega)]
      exact cR r hr
    · rw [h6 _ (by omega), hE' _ (by omega)]
      exact t3 r hr
  have hout : M3 e 2 = nI (tirE W S ns (E1f n k C Me E) 4) := by rw [x0, q2 2 (by omega), c2, t1 4 (by omega), g3 4 (by omega) (by omega)]
  have hend : f_X10_endsLead (e + 1) M3 = if E 1 % k = k - 1 then 1 else 0 := by
    unfold f_X10_endsLead
    rw [x1, w1]
    unfold nxc
    by_cases hx : E 1 % k = k - 1
    · rw [if_pos hx, if_neg (show ¬ E 1 % k + 1 < k by omega)]
      rfl
    · rw [if_neg hx, if_pos (show E 1 % k + 1 < k by omega), if_neg (nI_ne0 (by omega) (by omega))]
  rw [hend, ringE_eq]
  by_cases hx : E 1 % k = k - 1
  · rw [if_pos hx, if_pos hx, if_neg (by decide), x1, w0]
    rw [loserBy_spec (E := tirE W S ns (E1f n k C Me E)) (frT M3 (fun o ho => (f3 o (by omega)).trans (f2 o (by omega) (by omega)))) hV0 hn hout (by rw [t1 4 (by omega), g3 4 (by omega) (by omega)]; exact e4) (fun r hr => by rw [f3 _ (by omega), f2 _ (by omega) (by omega), t1 _ (by omega), g2 _ (by omega)]; exact cR r hr) (fun r hr => by rw [t1 _ (by omega), g2 _ (by omega)]; exact eP r hr) (fun r q hr hq h => by rw [t1 _ (by omega), g2 _ (by omega), t1 _ (by omega), g2 _ (by omega)] at h; exact eJ r q hr hq h) (fun p hp => by have := eR _ (pm_lt hc4 hp); show E (5 + pm _ p) < 8; omega) (by
      show E (5 + pm _ (n - 1)) = _
      rw [t1 _ (by omega), show 5 + n - 1 = 5 + (n - 1) by omega, g4 _ (by omega)]), Bd_some]
    unfold f_X1_sendOut
    have h4o := outE_4 (n := n) (ns := ns) (E := tirE W S ns (E1f n k C Me E))
    cases hl : losE n ns (tirE W S ns (E1f n k C Me E)) with
    | none =>
      rw [hl] at h4o
      rw [if_pos (show lI none = (-1 : Int32) from rfl), Bd_some]
      exact ⟨M3, rfl, base _ M3 (fun j hj => outE_ne hj) (by rw [h4o]; exact hout) (fun _ _ => rfl) (fun _ _ => rfl)⟩
    | some r =>
      rw [hl] at h4o
      have hr : r < ns := by
        unfold losE at hl
        split at hl
        · cases hl
        · rename_i r2 h2
          split at hl
          · cases hl
          · split at hl
            · cases hl
              exact (lstR_lt h2).1
            · cases hl
      have h2r : 2 ^ r ≤ 64 := pow_ns (by omega)
      rw [if_neg (show ¬ lI (some r) = (-1 : Int32) from nI_m1 (show r < 2 ^ 31 by omega)), Lt_eq, Bd_some, hout, show lI (some r) = nI r from rfl, show (1 : Int32) = nI 1 from rfl, sl_nI (by omega) (by omega), nI_or, Nat.one_mul]
      exact ⟨_, rfl, base _ _ (fun j hj => outE_ne hj) (by rw [h4o]; exact s2_eq) (fun j hj => s2_nk hj) (fun o ho => s2_ne ho)⟩
  · rw [if_neg hx, if_neg hx, if_pos rfl]
    exact ⟨M3, rfl, base _ M3 (fun _ _ => rfl) hout (fun _ _ => rfl) (fun _ _ => rfl)⟩
