theorem Bd_assoc {α β γ : Type} (a : Option α) (g : α → Option β) (h : β → Option γ) : Bd a (fun r => Bd (g r) h) = Bd (Bd a g) h := by
  cases a <;> rfl
def dsA (n k C : Nat) (Me : Nat → Nat) (A m : Nat) : Prop := ∀ j, j < m → ∀ q, q < j → ¬ cdA n k C Me A q % 32768 = cdA n k C Me A j % 32768
theorem ds_figs {n k ns C A B q j : Nat} {Me W S : Nat → Nat} (hV : TV n k ns C Me W S) (hk : 0 < k) : cdA n k C Me A q % 32768 = cdA n k C Me B j % 32768 ↔ figs n (rwA k C Me A q) = figs n (rwA k C Me B j) := by
  have hb := hV.1
  exact code_iff (by omega) (prm_rwA hV hk q) (prm_rwA hV hk j)
/-- what a search from lead l leaves behind -/
def GoT (t n k ns C L : Nat) (Me W S : Nat → Nat) (rc : Nat → Nat → Nat → Int32 → Int32 → Int32 → Mm → Option Mm) (l : Nat) : Prop := ∀ (A : Nat) (Q : Nat → Bool) (M : Mm), A < 2 ^ l → TC t n k ns C L Me W S M → Rep L Q M → SS (SPc (cdA n k C Me A) (l * k)) M → dsA n k C Me A (l * k) → (∀ X, X < 2 ^ L → X % 2 ^ l = A → ¬ Q X = true) → ∃ M', rc 111 t 109 (nI (cdA n k C Me A (l * k))) (nI l) (nI A) M = some M' ∧ Rep L (fun X => Q X || ((X % 2 ^ l == A) && tchB n k C Me L X)) M' ∧ SS (SPc (cdA n k C Me A) (l * k)) M' ∧ ∀ o j, ¬ (o = 110 ∨ (o = 111 ∧ j ≤ 1)) → M' o j = M o j
theorem endT {t n k ns C L l : Nat} {Me W S : Nat → Nat} {rc : Nat → Nat → Nat → Int32 → Int32 → Int32 → Mm → Option Mm} (hV : TV n k ns C Me W S) (hn : 0 < n) (hL : L ≤ 8) (hl : l < L) (hrc : l + 1 < L → GoT t n k ns C L Me W S rc (l + 1)) {A : Nat} {Q : Nat → Bool} {M : Mm} (hA : A < 2 ^ (l + 1)) (hT : TC t n k ns C L Me W S M) (hR : Rep L Q M) (hS : SS (SPc (cdA n k C Me A) ((l + 1) * k)) M) (hd : dsA n k C Me A ((l + 1) * k)) (hQ : ∀ X, X < 2 ^ L → X % 2 ^ (l + 1) = A → ¬ Q X = true) : ∃ M', f_X8_endLeadQ rc 111 t 109 (nI (cdA n k C Me A ((l + 1) * k))) (nI l) (nI A) M = some M' ∧ Rep L (fun X => Q X || ((X % 2 ^ (l + 1) == A) && tchB n k C Me L X)) M' ∧ SS (SPc (cdA n k C Me A) ((l + 1) * k)) M' ∧ ∀ o j, ¬ (o = 110 ∨ (o = 111 ∧ j ≤ 1)) → M' o j = M o j := by
  have hb := hV.1
  have hk : 0 < k := by omega
  have h8 := p8_le hL
  unfold f_X8_endLeadQ
  simp only [Lt_eq]
  rw [nI_1]
  by_cases hlast : l + 1 = L
  · subst hlast
    rw [if_pos (show M 111 2 ≤ nI (l + 1) by rw [hT.2.1]; exact nI_le (Nat.le_refl _) (by omega))]
    have hp8 := prm8 (show n ≤ 6 by omega) (prm_rwA (A := A) hV hk ((l + 1) * k))
    have hi8 : ∀ p, p < n → p < 8 := fun p hp => by omega
    have e1 := enc_b (show n ≤ 6 by omega) hp8
    have e2 := enc_b (show n ≤ 6 by omega) hi8
    have hiff := rowsEq hp8 hi8
    have htch : tchB n k C Me (l + 1) A = true ↔ enc n (rwA k C Me A ((l + 1) * k)) = enc n (fun p => p) := by
      rw [tchB_t, hiff]
      constructor
      · intro h; exact h.2
      · intro h
        exact ⟨fun j hj q hq z => hd j hj q hq ((ds_figs hV hk).mpr z), h⟩
    by_cases he : enc n (rwA k C Me A ((l + 1) * k)) = enc n (fun p => p)
    · rw [if_pos (show nI (cdA n k C Me A ((l + 1) * k)) = M 111 3 by rw [hT.2.2]; unfold cdA; rw [he])]
      have hqA := hQ A hA (Nat.mod_eq_of_lt hA)
      have hRa := Rep_add hL hA hqA hR
      refine ⟨_, rfl, ?_, SS_c (by rw [s2_ne (by omega), s2_ne (by omega)]) hS, fun o j q => by rw [s2_at, if_neg (by omega), s2_at, if_neg (by omega)]⟩
      rw [s2_nk (show 0 ≠ 1 by omega)]
      refine Rep_congr (fun X hX => ?_) hRa
      rw [Nat.mod_eq_of_lt hX]
      by_cases z : X = A
      · subst z
        rw [htch.mpr he]; simp
      · rw [show (X == A) = false by simp; exact z]; simp
    · rw [if_neg (show ¬ nI (cdA n k C Me A ((l + 1) * k)) = M 111 3 by rw [hT.2.2]; unfold cdA; exact fun z => he (nI_inj (by omega) (by omega) z))]
      refine ⟨M, rfl, Rep_congr (fun X hX => ?_) hR, hS, fun _ _ _ => rfl⟩
      rw [Nat.mod_eq_of_lt hX]
      by_cases z : X = A
      · subst z
        have : tchB n k C Me (l + 1) X = false := by
          cases hh : tchB n k C Me (l + 1) X with
          | false => rfl
          | true => exact absurd (htch.mp hh) he
        rw [this]; simp
      · rw [show (X == A) = false by simp; exact z]; simp
  · have hlt : l + 1 < L := by omega
    rw [if_neg (show ¬ M 111 2 ≤ nI (l + 1) by rw [hT.2.1]; exact nI_ge hlt (by omega))]
    obtain ⟨M', g1, g2, g3, g4⟩ := hrc hlt A Q M hA hT hR hS hd hQ
    rw [g1, Bd_some]
    exact ⟨M', rfl, g2, g3, g4⟩
theorem bits_mod {X A l i : Nat} (h : X % 2 ^ l = A) (hi : i < l) : X.testBit i = A.testBit i := by
  rw [← h, Nat.testBit_mod_two_pow, decide_eq_true hi, Bool.true_and]
theorem mod_two {X A l : Nat} (hA : A < 2 ^ l) : X % 2 ^ l = A ↔ X % 2 ^ (l + 1) = A ∨ X % 2 ^ (l + 1) = A + 2 ^ l := by
  have h := @Nat.mod_mul (2 ^ l) 2 X
  rw [← Nat.pow_succ] at h
  have h1 : X % 2 ^ l < 2 ^ l := Nat.mod_lt _ (Nat.pow_pos (by omega))
  rcases (show X / 2 ^ l % 2 = 0 ∨ X / 2 ^ l % 2 = 1 by omega) with e | e
  · rw [e, Nat.mul_zero, Nat.add_zero] at h
    rw [h]
    generalize X % 2 ^ l = v at *
    generalize 2 ^ l = m at *
    omega
  · rw [e, Nat.mul_one] at h
    rw [h]
    generalize X % 2 ^ l = v at *
    generalize 2 ^ l = m at *
    omega
theorem or_add {A l : Nat} (hA : A < 2 ^ l) : A ||| 2 ^ l = A + 2 ^ l := by
  have := Nat.two_pow_add_eq_or_of_lt (i := l) hA 1
  rw [Nat.mul_one] at this
  rw [Nat.or_comm, ← this, Nat.add_comm]
theorem goT {t n k ns C L : Nat} {Me W S : Nat → Nat} (hV : TV n k ns C Me W S) (hn : 0 < n) (hL : L ≤ 8) : ∀ (d f l : Nat), l + d + 1 = L → d + 1 ≤ f → GoT t n k ns C L Me W S (f_X8_goOn f) l := by
  intro d
  induction d with
  | zero => ?_
  | succ d ih => ?_
  all_goals
    intro f l hld hf A Q M hA hT hR hS hd hQ
    obtain ⟨f', rfl⟩ : ∃ f', f = f' + 1 := ⟨f - 1, by omega⟩
    have hrc : l + 1 < L → GoT t n k ns C L Me W S (f_X8_goOn f') (l + 1) := by
      first
        | (intro h; exact absurd h (by omega))
        | (intro _; exact ih f' (l + 1) (by omega) (by omega))
    have hb := hV.1
    have hk : 0 < k := by omega
    have ht := hT.1.1
    have hlL : l < L := by omega
    have hAl : ¬ A.testBit l = true := by rw [Nat.testBit_lt_two_pow hA]; simp
    show ∃ M', f_X8_goOnQ (f_X8_goOn f') 111 t 109 (nI (cdA n k C Me A (l * k))) (nI l) (nI A) M = some M' ∧ _
    unfold f_X8_goOnQ
    obtain ⟨e, u, M1, e1, e2, e3, e4, e5⟩ := enter_spec hV hn hT hS
    rw [Bd_assoc, e2, Bd_some]
    dsimp only
    have hT1 : TC t n k ns C L Me W S M1 := TC_c hV (fun o j q => by rw [e3 o (by omega)]) hT
    have hR1 : Rep L Q M1 := Rep_c (fun j _ => by rw [e3 111 (by omega)]) hR
    rcases e5 with ⟨u1, e6, e7, e8⟩ | ⟨u0, e7, e8⟩
    · subst u1
      have hek : e = k - 1 := by omega
      subst hek
      have hlk : l * k + (k - 1) + 1 = (l + 1) * k := by rw [Nat.add_mul, Nat.one_mul]; omega
      have hlk2 : l * k + k = (l + 1) * k := by rw [Nat.add_mul, Nat.one_mul]
      have hdn : dsA n k C Me A ((l + 1) * k) := fun j hj q hq => by
        by_cases c : j < l * k
        · exact hd j c q hq
        · by_cases c2 : j = l * k + (k - 1)
          · rw [c2] at hq ⊢; exact e8 q hq
          · have := e4 (j - l * k) (by omega) q (by omega)
            rw [show l * k + (j - l * k) = j by omega] at this
            exact this
      have hch : chA k C Me A (l * k + (k - 1)) = Me (k - 1) := by
        unfold chA
        rw [mod_lk (by omega), div_lk (by omega), if_neg (fun z => hAl z.2)]
      obtain ⟨n1', n2', n3'⟩ := nextMe hV hn hT1 (show k - 1 < k by omega) hch
      rw [hlk] at n3'
      have tk : M1 t 1 = nI k := hT1.1.2.2.1
      have hA2 : A < 2 ^ (l + 1) := by rw [Nat.pow_succ]; omega
      rw [hlk2] at e7
      obtain ⟨M2, p1, p2, p3, p4⟩ := endT hV hn hL hlL hrc hA2 hT1 hR1 e7 hdn (fun X hX hXA => hQ X hX ((mod_two hA).mpr (Or.inl hXA)))
      have hT2 : TC t n k ns C L Me W S M2 := TC_c hV p4 hT1
      -- the lead that is called
      have hB : A ||| 2 ^ l < 2 ^ (l + 1) := by rw [or_add hA, Nat.pow_succ]; omega
      have hagree : ∀ i, i < l → (A ||| 2 ^ l).testBit i = A.testBit i := fun i hi => by
        rw [Nat.testBit_or, Nat.testBit_two_pow, decide_eq_false (by omega), Bool.or_false]
      have hcdB : ∀ j, j < (l + 1) * k → cdA n k C Me (A ||| 2 ^ l) j = cdA n k C Me A j := fun j hj => by
        unfold cdA
        rw [rwA_agree hk hagree (by omega)]
      have hBl : (A ||| 2 ^ l).testBit l = true := by rw [Nat.testBit_or, Nat.testBit_two_pow, decide_eq_true rfl, Bool.or_true]
      have hchB : chA k C Me (A ||| 2 ^ l) (l * k + (k - 1)) = C := by
        unfold chA
        rw [mod_lk (by omega), div_lk (by omega), if_pos ⟨rfl, hBl⟩]
      have hnextB : f_X0_next (t + 1) (nI (cdA n k C Me A (l * k + (k - 1)))) M2 = nI (cdA n k C Me (A ||| 2 ^ l) ((l + 1) * k)) := by
        rw [← hcdB (l * k + (k - 1)) (by omega)]
        unfold cdA
        rw [next_spec (by omega) (hT2.1.2.2.2.2.1 hn) (prm8 (by omega) (prm_rwA hV hk _)), ← hlk]
        show _ = nI (enc n (fun p => rwA k C Me (A ||| 2 ^ l) (l * k + (k - 1)) (pm (chA k C Me (A ||| 2 ^ l) (l * k + (k - 1))) p)))
        rw [hchB]
      have hSB : SS (SPc (cdA n k C Me (A ||| 2 ^ l)) ((l + 1) * k)) M2 := SS_iff (fun c _ => ⟨fun ⟨j, hj, z⟩ => ⟨j, hj, by rw [hcdB j hj]; exact z⟩, fun ⟨j, hj, z⟩ => ⟨j, hj, by rw [← hcdB j hj]; exact z⟩⟩) p3
      have hdB : dsA n k C Me (A ||| 2 ^ l) ((l + 1) * k) := fun j hj q hq => by
        rw [hcdB j hj, hcdB q (by omega)]
        exact hdn j hj q hq
      obtain ⟨M3, q1, q2, q3, q4⟩ := endT hV hn hL hlL hrc hB hT2 p2 hSB hdB (fun X hX hXB => by
        rw [or_add hA] at hXB
        have h1 := hQ X hX ((mod_two hA).mpr (Or.inr hXB))
        have h2 : ¬ X % 2 ^ (l + 1) = A := by
          have : 0 < 2 ^ l := Nat.pow_pos (by omega)
          omega
        show ¬ (Q X || ((X % 2 ^ (l + 1) == A) && tchB n k C Me L X)) = true
        rw [show (X % 2 ^ (l + 1) == A) = false by simp; exact h2]
        simpa using h1)
      have hT3 : TC t n k ns C L Me W S M3 := TC_c hV q4 hT2
      have hSA : SS (SPc (cdA n k C Me A) (l * k + k)) M3 := by
        rw [hlk2]
        exact SS_iff (fun c _ => ⟨fun ⟨j, hj, z⟩ => ⟨j, hj, by rw [← hcdB j hj]; exact z⟩, fun ⟨j, hj, z⟩ => ⟨j, hj, by rw [hcdB j hj]; exact z⟩⟩) q3
      obtain ⟨M4, r1, r2, r3⟩ := leave_spec hV hn hT3 (Nat.le_refl k) hAl hSA (fun e' he' q hq => by
        have := hdn (l * k + e') (by rw [← hlk2]; omega) q hq
        exact this)
      refine ⟨M4, ?_, ?_, r2, fun o j q => by rw [r3 o (by omega), q4 o j q, p4 o j q, e3 o (by omega)]⟩
      · rw [if_neg one_ne]
        rw [tk, show nI k - (1 : Int32) = nI (k - 1) from pk_sub (b := 1) (by omega), n1', Bd_some, Gd_t n2', n3', p1, Bd_some]
        simp only [Lt_eq]
        rw [hnextB, sl1 (by omega), nI_or, q1, Bd_some, nI_1, Bd_some]
        dsimp only
        rw [show k - 1 + 1 = k by omega, r1, Bd_some]
      · refine Rep_c (fun j _ => by rw [r3 111 (by omega)]) (Rep_congr (fun X hX => ?_) q2)
        show (Q X || ((X % 2 ^ (l + 1) == A) && tchB n k C Me L X) || ((X % 2 ^ (l + 1) == A ||| 2 ^ l) && tchB n k C Me L X)) = (Q X || ((X % 2 ^ l == A) && tchB n k C Me L X))
        rw [or_add hA, Bool.or_assoc, ← Bool.and_or_distrib_right]
        congr 2
        rw [Bool.eq_iff_iff, Bool.or_eq_true, beq_iff_eq, beq_iff_eq, beq_iff_eq, mod_two hA]
    · subst u0
      obtain ⟨M4, r1, r2, r3⟩ := leave_spec hV hn hT1 (show e ≤ k by omega) hAl e7 e4
      refine ⟨M4, ?_, ?_, r2, fun o j q => by rw [r3 o (by omega), e3 o (by omega)]⟩
      · rw [if_pos rfl, Bd_some]
        dsimp only
        rw [r1, Bd_some]
      · refine Rep_c (fun j _ => by rw [r3 111 (by omega)]) (Rep_congr (fun X hX => ?_) hR1)
        by_cases z : X % 2 ^ l = A
        · have hno : tchB n k C Me L X = false := by
            cases hh : tchB n k C Me L X with
            | false => rfl
            | true =>
              obtain ⟨w1, -⟩ := tchB_t.mp hh
              obtain ⟨q, hq, ee⟩ := e8
              have hx : ∀ j, j ≤ l * k + (k - 1) → rwA k C Me X j = rwA k C Me A j := fun j hj => rwA_agree hk (fun i hi => bits_mod z hi) hj
              have hLk : l * k + e < L * k := by
                have : (l + 1) * k ≤ L * k := Nat.mul_le_mul_right k (by omega)
                rw [Nat.add_mul, Nat.one_mul] at this
                omega
              exact absurd (by rw [hx q (by omega), hx (l * k + e) (by omega)]; exact (ds_figs hV hk).mp ee) (w1 (l * k + e) hLk q hq)
          rw [hno, Bool.and_false, Bool.or_false]
        · rw [show (X % 2 ^ l == A) = false by simp; exact z, Bool.false_and, Bool.or_false]
