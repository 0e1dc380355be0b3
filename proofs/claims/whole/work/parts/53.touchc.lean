/-! the class's search -/
def cdA (n k C : Nat) (Me : Nat → Nat) (A j : Nat) : Nat := enc n (rwA k C Me A j)
/-- what holds all along the search -/
def TC (t n k ns C L : Nat) (Me W S : Nat → Nat) (M : Mm) : Prop := TW t n k ns C Me W S M ∧ M 111 2 = nI L ∧ M 111 3 = nI (enc n (fun p => p))
theorem TC_c {t n k ns C L : Nat} {Me W S : Nat → Nat} {M M' : Mm} (hV : TV n k ns C Me W S) (h : ∀ o j, ¬ (o = 110 ∨ (o = 111 ∧ j ≤ 1)) → M' o j = M o j) (c : TC t n k ns C L Me W S M) : TC t n k ns C L Me W S M' :=
  ⟨TW_c hV (fun o ho => funext fun j => h o j (by omega)) c.1, (h _ _ (by omega)).trans c.2.1, (h _ _ (by omega)).trans c.2.2⟩
theorem mod_lk {l k e : Nat} (h : e < k) : (l * k + e) % k = e := by
  rw [Nat.add_comm, Nat.add_mul_mod_self_right, Nat.mod_eq_of_lt h]
theorem div_lk {l k e : Nat} (h : e < k) : (l * k + e) / k = l := by
  have hk : 0 < k := by omega
  rw [Nat.add_comm, Nat.add_mul_div_right _ _ hk, Nat.div_eq_of_lt h, Nat.zero_add]
/-- the row behind a change of the method -/
theorem nextMe {t n k ns C L l A e : Nat} {Me W S : Nat → Nat} {M : Mm} (hV : TV n k ns C Me W S) (hn : 0 < n) (hT : TC t n k ns C L Me W S M) (he : e < k) (hc : chA k C Me A (l * k + e) = Me e) : f_X9_changeAt t (nI e) M = some (t + 5 + e) ∧ KDF[t + 5 + e]? = some (0, 0) ∧ f_X0_next (t + 5 + e) (nI (cdA n k C Me A (l * k + e))) M = nI (cdA n k C Me A (l * k + e + 1)) := by
  have hb := hV.1
  obtain ⟨q0, q1, q2, q3, q4, q5, -⟩ := hT.1
  refine ⟨changeAt_spec q0 q2 (by omega) he, kd_ch q0 (by omega), ?_⟩
  unfold cdA
  rw [next_spec (by omega) (q5 e he) (prm8 (by omega) (prm_rwA hV (by omega) _))]
  show _ = nI (enc n (fun p => rwA k C Me A (l * k + e) (pm (chA k C Me A (l * k + e)) p)))
  rw [hc]
theorem chA_mid {k C A l e : Nat} {Me : Nat → Nat} (h : e + 1 < k) : chA k C Me A (l * k + e) = Me e := by
  unfold chA
  rw [mod_lk (by omega), if_neg (by omega)]
/-- phase one: the rows of a lead are entered, up to the first that is like one ahead of it -/
theorem enter_spec {t n k ns C L l A : Nat} {Me W S : Nat → Nat} {M : Mm} (hV : TV n k ns C Me W S) (hn : 0 < n) (hT : TC t n k ns C L Me W S M) (hS : SS (SPc (cdA n k C Me A) (l * k)) M) : ∃ (e : Nat) (u : Int32) (M1 : Mm), e < k ∧ Bd (f_X6_add 109 (nI (cdA n k C Me A (l * k))) M) (fun r1 => Lp (b_X8_goOn_14 t 109) 100000 (nI (cdA n k C Me A (l * k)), (0 : Int32), r1.1, r1.2)) = some (nI (cdA n k C Me A (l * k + e)), nI e, u, M1) ∧ (∀ o, o ≠ 110 → M1 o = M o) ∧ (∀ e', e' < e → ∀ q, q < l * k + e' → ¬ cdA n k C Me A q % 32768 = cdA n k C Me A (l * k + e') % 32768) ∧ ((u = 1 ∧ e + 1 = k ∧ SS (SPc (cdA n k C Me A) (l * k + k)) M1 ∧ ∀ q, q < l * k + e → ¬ cdA n k C Me A q % 32768 = cdA n k C Me A (l * k + e) % 32768) ∨ (u = 0 ∧ SS (SPc (cdA n k C Me A) (l * k + e)) M1 ∧ ∃ q, q < l * k + e ∧ cdA n k C Me A q % 32768 = cdA n k C Me A (l * k + e) % 32768)) := by
  have hb := hV.1
  have hk : 0 < k := by omega
  have ht := hT.1.1
  generalize hcd : cdA n k C Me A = cd at *
  have hfr : ∀ M', (∀ o, o ≠ 110 → M' o = M o) → TC t n k ns C L Me W S M' := fun M' h => TC_c hV (fun o j q => by rw [h o (by omega)]) hT
  obtain ⟨a1, a2⟩ := addC (cC := cd) hS
  by_cases h0 : ∀ q, q < l * k → ¬ cd q % 32768 = cd (l * k) % 32768
  · obtain ⟨M0, b1, b2, b3⟩ := a2 h0
    rw [b1, Bd_some]
    have key := Lp_inv (f := b_X8_goOn_14 t 109) (fun s => ∃ (e : Nat), e < k ∧ s.1 = nI (cd (l * k + e)) ∧ s.2.1 = nI e ∧ (∀ o, o ≠ 110 → s.2.2.2 o = M o) ∧ (∀ e', e' < e → ∀ q, q < l * k + e' → ¬ cd q % 32768 = cd (l * k + e') % 32768) ∧ ((s.2.2.1 = 1 ∧ SS (SPc cd (l * k + e + 1)) s.2.2.2 ∧ ∀ q, q < l * k + e → ¬ cd q % 32768 = cd (l * k + e) % 32768) ∨ (s.2.2.1 = 0 ∧ SS (SPc cd (l * k + e)) s.2.2.2 ∧ ∃ q, q < l * k + e ∧ cd q % 32768 = cd (l * k + e) % 32768))) (fun s => if s.2.2.1 = 0 then 0 else (k - s.2.1.toNatClampNeg) + 1) (fun r => ∃ (e : Nat), e < k ∧ r.1 = nI (cd (l * k + e)) ∧ r.2.1 = nI e ∧ (∀ o, o ≠ 110 → r.2.2.2 o = M o) ∧ (∀ e', e' < e → ∀ q, q < l * k + e' → ¬ cd q % 32768 = cd (l * k + e') % 32768) ∧ ((r.2.2.1 = 1 ∧ e + 1 = k ∧ SS (SPc cd (l * k + k)) r.2.2.2 ∧ ∀ q, q < l * k + e → ¬ cd q % 32768 = cd (l * k + e) % 32768) ∨ (r.2.2.1 = 0 ∧ SS (SPc cd (l * k + e)) r.2.2.2 ∧ ∃ q, q < l * k + e ∧ cd q % 32768 = cd (l * k + e) % 32768))) (fun s hs => by
      obtain ⟨e, he, h1, h2, hF, hP, hc⟩ := hs
      obtain ⟨x1, x2, u, Mi⟩ := s
      simp only at h1 h2 hF hc
      subst h1
      subst h2
      rcases hc with ⟨u1, s1, n1⟩ | ⟨u0, s0, q0⟩
      · subst u1
        have hTi := hfr Mi hF
        have tk : Mi t 1 = nI k := hTi.1.2.2.1
        by_cases hin : e + 1 = k
        · refine Or.inr ⟨(nI (cd (l * k + e)), nI e, 1, Mi), ?_, e, he, rfl, rfl, hF, hP, Or.inl ⟨rfl, hin, by rw [show l * k + k = l * k + e + 1 by omega]; exact s1, n1⟩⟩
          unfold b_X8_goOn_14
          simp only [Lt_eq]
          rw [if_neg one_ne, if_pos (show Mi t 1 ≤ nI e + 1 by rw [tk, nI_1]; exact nI_le (by omega) (by omega))]
        · have hnx := nextMe (A := A) (l := l) (e := e) hV hn hTi he (chA_mid (by omega))
          rw [hcd] at hnx
          obtain ⟨n1', n2', n3'⟩ := hnx
          have hbody : b_X8_goOn_14 t 109 (nI (cd (l * k + e)), nI e, (1 : Int32), Mi) = Bd (f_X6_add 109 (nI (cd (l * k + e + 1))) Mi) (fun r10 => some (.inl (nI (cd (l * k + e + 1)), nI (e + 1), r10.1, r10.2))) := by
            unfold b_X8_goOn_14
            simp only [Lt_eq]
            rw [if_neg one_ne, if_neg (show ¬ Mi t 1 ≤ nI e + 1 by rw [tk, nI_1]; exact nI_ge (by omega) (by omega)), n1', Bd_some, Gd_t n2', n3', nI_1]
          have hP' : ∀ e', e' < e + 1 → ∀ q, q < l * k + e' → ¬ cd q % 32768 = cd (l * k + e') % 32768 := fun e' he' => by
            by_cases c : e' = e
            · rw [c]; exact n1
            · exact hP e' (by omega)
          obtain ⟨d1, d2⟩ := addC (cC := cd) s1
          by_cases hx : ∀ q, q < l * k + e + 1 → ¬ cd q % 32768 = cd (l * k + e + 1) % 32768
          · obtain ⟨Mn, m1, m2, m3⟩ := d2 hx
            refine Or.inl ⟨(nI (cd (l * k + e + 1)), nI (e + 1), 1, Mn), by rw [hbody, m1, Bd_some], ⟨e + 1, by omega, rfl, rfl, fun o ho => (m3 o ho).trans (hF o ho), hP', Or.inl ⟨rfl, m2, hx⟩⟩, ?_⟩
            show (if (1 : Int32) = 0 then 0 else k - (nI (e + 1)).toNatClampNeg + 1) < (if (1 : Int32) = 0 then 0 else k - (nI e).toNatClampNeg + 1)
            rw [if_neg one_ne, if_neg one_ne, nI_clamp (by omega), nI_clamp (by omega)]
            omega
          · have hex : ∃ q, q < l * k + e + 1 ∧ cd q % 32768 = cd (l * k + e + 1) % 32768 := by
              apply Classical.byContradiction
              intro hno
              exact hx (fun q hq z => hno ⟨q, hq, z⟩)
            obtain ⟨m1, m2⟩ := d1 hex
            refine Or.inl ⟨(nI (cd (l * k + e + 1)), nI (e + 1), 0, Mi), by rw [hbody, m1, Bd_some], ⟨e + 1, by omega, rfl, rfl, hF, hP', Or.inr ⟨rfl, s1, hex⟩⟩, ?_⟩
            show (if (0 : Int32) = 0 then 0 else _) < (if (1 : Int32) = 0 then 0 else _)
            rw [if_pos rfl, if_neg one_ne]
            omega
      · subst u0
        refine Or.inr ⟨(nI (cd (l * k + e)), nI e, 0, Mi), ?_, e, he, rfl, rfl, hF, hP, Or.inr ⟨rfl, s0, q0⟩⟩
        unfold b_X8_goOn_14
        rw [if_pos rfl]) 100000 (nI (cd (l * k)), (0 : Int32), (1 : Int32), M0) ⟨0, hk, by rw [Nat.add_zero], rfl, fun o ho => b3 o ho, fun e' he' => absurd he' (by omega), Or.inl ⟨rfl, b2, h0⟩⟩ (by
        show (if (1 : Int32) = 0 then 0 else k - _ + 1) < _
        rw [if_neg one_ne]
        omega)
    obtain ⟨⟨x1, x2, u, M1⟩, k1, e, k2, k3, k4, k5, k6, k7⟩ := key
    simp only at k3 k4 k5 k7
    subst k3
    subst k4
    exact ⟨e, u, M1, k2, k1, k5, k6, k7⟩
  · have hex : ∃ q, q < l * k ∧ cd q % 32768 = cd (l * k) % 32768 := by
      apply Classical.byContradiction
      intro hno
      exact h0 (fun q hq z => hno ⟨q, hq, z⟩)
    obtain ⟨b1, b2⟩ := a1 hex
    rw [b1, Bd_some]
    refine ⟨0, 0, M, hk, ?_, fun _ _ => rfl, fun e' he' => absurd he' (by omega), Or.inr ⟨rfl, hS, hex⟩⟩
    have he : b_X8_goOn_14 t 109 (nI (cd (l * k)), (0 : Int32), (0 : Int32), M) = some (.inr (nI (cd (l * k)), (0 : Int32), (0 : Int32), M)) := by
      unfold b_X8_goOn_14
      rw [if_pos rfl]
    exact Lp_from (s0 := (nI (cd (l * k)), (0 : Int32), (0 : Int32), M)) (fun _ => (nI (cd (l * k)), (0 : Int32), (0 : Int32), M)) 0 _ rfl (fun i hi => absurd hi (by omega)) he (by omega)
/-- phase three: the rows are left again -/
theorem leave_spec {t n k ns C L l A e : Nat} {Me W S : Nat → Nat} {M : Mm} (hV : TV n k ns C Me W S) (hn : 0 < n) (hT : TC t n k ns C L Me W S M) (he : e ≤ k) (hA : ¬ A.testBit l = true) (hS : SS (SPc (cdA n k C Me A) (l * k + e)) M) (hd : ∀ e', e' < e → ∀ q, q < l * k + e' → ¬ cdA n k C Me A q % 32768 = cdA n k C Me A (l * k + e') % 32768) : ∃ M', f_X8_leave t 109 (nI (cdA n k C Me A (l * k))) (nI e) M = some M' ∧ SS (SPc (cdA n k C Me A) (l * k)) M' ∧ ∀ o, o ≠ 110 → M' o = M o := by
  have hb := hV.1
  have hk : 0 < k := by omega
  have ht := hT.1.1
  have hchA : ∀ i, i < k → chA k C Me A (l * k + i) = Me i := fun i hi => by
    unfold chA
    rw [mod_lk hi, div_lk hi, if_neg (fun z => hA z.2)]
  have hnx : ∀ (Mi : Mm) (i : Nat), TC t n k ns C L Me W S Mi → i < k → f_X9_changeAt t (nI i) Mi = some (t + 5 + i) ∧ KDF[t + 5 + i]? = some (0, 0) ∧ f_X0_next (t + 5 + i) (nI (cdA n k C Me A (l * k + i))) Mi = nI (cdA n k C Me A (l * k + i + 1)) := fun Mi i h hi => nextMe hV hn h hi (hchA i hi)
  generalize hcd : cdA n k C Me A = cd at *
  have key := Lp_inv (f := b_X8_leave_6 t 109 (nI e)) (fun s => ∃ i, i ≤ e ∧ s.1 = nI (cd (l * k + i)) ∧ s.2.1 = nI i ∧ SS (fun c => ∃ j, (j < l * k ∨ l * k + i ≤ j) ∧ j < l * k + e ∧ cd j % 32768 = c) s.2.2 ∧ ∀ o, o ≠ 110 → s.2.2 o = M o) (fun s => e - s.2.1.toNatClampNeg) (fun Mx => SS (SPc cd (l * k)) Mx ∧ ∀ o, o ≠ 110 → Mx o = M o) (fun s hs => by
    obtain ⟨i, hi, h1, h2, hSi, hF⟩ := hs
    obtain ⟨x1, x2, Mi⟩ := s
    simp only at h1 h2 hSi hF
    subst h1
    subst h2
    by_cases hin : i = e
    · subst hin
      refine Or.inr ⟨Mi, by unfold b_X8_leave_6; rw [if_pos (nI_le (Nat.le_refl _) (by omega))], SS_iff (fun c _ => ?_) hSi, hF⟩
      constructor
      · rintro ⟨j, j1, j2, j3⟩; exact ⟨j, by omega, j3⟩
      · rintro ⟨j, j1, j2⟩; exact ⟨j, by omega, by omega, j2⟩
    · obtain ⟨Mr, m1, m2, m3⟩ := seen_remove (a := cd (l * k + i)) hSi
      have hTr : TC t n k ns C L Me W S Mr := TC_c hV (fun o j q => by rw [m3 o (by omega), hF o (by omega)]) hT
      obtain ⟨n1', n2', n3'⟩ := hnx Mr i hTr (by omega)
      refine Or.inl ⟨(nI (cd (l * k + i + 1)), nI (i + 1), Mr), ?_, ⟨i + 1, by omega, rfl, rfl, SS_iff (fun c _ => ?_) m2, fun o ho => (m3 o ho).trans (hF o ho)⟩, ?_⟩
      · unfold b_X8_leave_6
        simp only [Lt_eq]
        rw [if_neg (nI_ge (show i < e by omega) (by omega)), m1, Bd_some]
        rw [n1', Bd_some, Gd_t n2', n3', nI_1]
      · constructor
        · rintro ⟨⟨j, j1, j2, j3⟩, j4⟩
          refine ⟨j, ?_, j2, j3⟩
          by_cases z : j = l * k + i
          · rw [z] at j3; exact absurd j3.symm j4
          · omega
        · rintro ⟨j, j1, j2, j3⟩
          refine ⟨⟨j, by omega, j2, j3⟩, fun z => ?_⟩
          rw [← j3] at z
          rcases j1 with j1 | j1
          · exact hd i (by omega) j (by omega) z
          · have hj := hd (j - l * k) (by omega) (l * k + i) (by omega)
            rw [show l * k + (j - l * k) = j by omega] at hj
            exact hj z.symm
      · show e - (nI (i + 1)).toNatClampNeg < e - (nI i).toNatClampNeg
        rw [nI_clamp (by omega), nI_clamp (by omega)]
        omega) 100000 (nI (cd (l * k)), (0 : Int32), M) ⟨0, by omega, by rw [Nat.add_zero], rfl, SS_iff (fun c _ => ⟨fun ⟨j, j1, j2⟩ => ⟨j, by omega, j1, j2⟩, fun ⟨j, _, j1, j2⟩ => ⟨j, j1, j2⟩⟩) hS, fun _ _ => rfl⟩ (by show e - _ < _; omega)
  obtain ⟨M', k1, k2, k3⟩ := key
  unfold f_X8_leave
  rw [k1, Bd_some]
  exact ⟨M', rfl, k2, k3⟩
