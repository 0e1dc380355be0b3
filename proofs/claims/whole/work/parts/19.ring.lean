/-! one row rung: an evening in 23 numbers; RUNG 0, SINCE 1, CALLED 2, WET 3, OUT 4, ROW 5.., ROPE 11.., TIRED 17.. -/
def rowE (c n : Nat) (E : Nat → Nat) : Nat → Nat := fun j => if 5 ≤ j ∧ j < 5 + n then E (5 + pm c (j - 5)) else E j
def up1 (E : Nat → Nat) (i v : Nat) : Nat → Nat := fun j => if j = i then v else E j
def tir1 (W S E : Nat → Nat) (r : Nat) : Nat := if (E 4).testBit r then E (17 + r) else min 9999 (E (17 + r) + (W (E (11 + r)) - S r) + E 3)
def tirE (W S : Nat → Nat) (i : Nat) (E : Nat → Nat) : Nat → Nat := fun j => if 17 ≤ j ∧ j < 17 + i then tir1 W S E (j - 17) else E j
def lstR (E : Nat → Nat) (b : Nat) : Nat → Option Nat
  | 0 => none
  | r + 1 => if E (11 + r) = b then some r else lstR E b r
def cntI (x : Nat) : Nat → Nat
  | 0 => 0
  | r + 1 => cntI x r + if x.testBit r then 0 else 1
def outE (n ns : Nat) (E : Nat → Nat) : Nat → Nat := match lstR E (E (5 + n - 1)) ns with
  | none => E
  | some r => if 1 < cntI (E 4) ns then up1 E 4 (E 4 ||| 2 ^ r) else E
def ringE (n k ns C : Nat) (Me W S E : Nat → Nat) : Nat → Nat :=
  let E1 := up1 (up1 (up1 (rowE (if E 2 = 1 then C else Me (E 1 % k)) n E) 2 0) 1 (E 1 + 1)) 0 (E 0 + 1)
  let E2 := tirE W S ns E1
  if E 1 % k = k - 1 then outE n ns E2 else E2
def MT (n k ns C : Nat) (Me W S : Nat → Nat) (M : Mm) : Prop := M 128 16 = nI n ∧ M 128 17 = nI k ∧ M 128 18 = nI ns ∧ M 128 19 = nI C ∧ (∀ i, i < k → M 134 i = nI (Me i)) ∧ (∀ i, i < n → M 133 i = nI (W i)) ∧ ∀ i, i < ns → M 135 i = nI (S i)
def AR (E : Nat → Nat) (r : Nat → Int32) : Prop := ∀ j, j < 23 → r j = nI (E j)
theorem AR_up {E : Nat → Nat} {M : Mm} {o i v : Nat} (h : AR E (M o)) : AR (up1 E i v) (st2 M o i (nI v) o) := by
  intro j hj
  unfold up1
  by_cases hi : j = i
  · subst hi
    rw [s2_eq, if_pos rfl]
  · rw [s2_nk hi, if_neg hi]
    exact h j hj
/-- what holds of an evening -/
def EV (n k ns : Nat) (E : Nat → Nat) : Prop := E 0 ≤ 12000 ∧ E 1 ≤ E 0 ∧ E 2 < 2 ∧ E 3 < 2 ∧ E 4 < 2 ^ ns ∧ (∀ p, p < n → E (5 + p) < n) ∧ (∀ p q, p < n → q < n → E (5 + p) = E (5 + q) → p = q) ∧ (∀ r, r < ns → E (11 + r) < ns) ∧ (∀ r q, r < ns → q < ns → E (11 + r) = E (11 + q) → r = q) ∧ ∀ r, r < 6 → E (17 + r) ≤ 9999
theorem pm_lt {n c p : Nat} (h : isC n c = true) (hp : p < n) : pm c p < n := by
  unfold pm
  cases hb : c.testBit p with
  | true => exact hp
  | false =>
    cases h0 : par c p with
    | true => show p - 1 < n; omega
    | false => exact (isC_pair h hp hb h0).1
theorem AR_row {E : Nat → Nat} {n c : Nat} {f : Nat → Int32} (hn : n ≤ 6) (h : AR E f) (hc : isC n c = true) : AR (rowE c n E) (chR c n f) := by
  intro j hj
  unfold rowE chR
  by_cases hx : 5 ≤ j ∧ j < 5 + n
  · rw [if_pos hx, if_pos hx]
    have := pm_lt hc (show j - 5 < n by omega)
    exact h _ (by omega)
  · rw [if_neg hx, if_neg hx]
    exact h j hj
theorem max0 {a b : Nat} (ha : a < 2 ^ 30) (hb : b < 2 ^ 30) : (if nI a - nI b ≤ 0 then (0 : Int32) else nI a - nI b) = nI (a - b) := by
  have e := pk_sub_toInt ha hb
  by_cases h : b ≤ a
  · rw [pk_sub h]
    by_cases h2 : a - b = 0
    · rw [h2]; rfl
    · rw [if_neg (nI_nle (by omega) (by omega))]
  · rw [if_pos (Int32.le_iff_toInt_le.mpr (by rw [e]; show _ ≤ (0 : Int); omega)), show a - b = 0 by omega]
    rfl
theorem tire_loop2 {M : Mm} {n k ns C o1 : Nat} {Me W S E : Nat → Nat} (hV : TV n k ns C Me W S) (hM : MT n k ns C Me W S M) (e3 : E 3 < 2) (e4 : E 4 < 2 ^ ns) (eP : ∀ r, r < ns → E (11 + r) < ns) (eT : ∀ r, r < 6 → E (17 + r) ≤ 9999) (hA : AR E (M o1)) (hl : kln o1 = 23) (ho : 135 < o1) : ∃ M', Lp (b_X12_rings_54 128 o1) 100000 ((0 : Int32), M) = some M' ∧ AR (tirE W S ns E) (M' o1) ∧ ∀ o, o ≠ o1 → M' o = M o := by
  obtain ⟨hb, -, -, -, hW, hS⟩ := hV
  obtain ⟨m16, m17, m18, m19, mMe, mW, mS⟩ := hM
  have hns : ns ≤ 6 := by omega
  have key := Lp_inv (f := b_X12_rings_54 128 o1) (fun s => ∃ i, i ≤ ns ∧ s.1 = nI i ∧ AR (tirE W S i E) (s.2 o1) ∧ ∀ o, o ≠ o1 → s.2 o = M o) (fun s => ns - s.1.toNatClampNeg) (fun t => AR (tirE W S ns E) (t o1) ∧ ∀ o, o ≠ o1 → t o = M o) ?_ 100000 ((0 : Int32), M) ⟨0, by omega, rfl, fun j hj => by rw [tirE, if_neg (by omega)]; exact hA j hj, fun _ _ => rfl⟩ (by show ns - _ < _; omega)
  · exact key
  · rintro ⟨x, Mi⟩ ⟨i, hi, hx, hAi, hFi⟩
    simp only at hx hAi hFi
    subst hx
    unfold b_X12_rings_54
    simp only [Lt_eq]
    rw [hFi 128 (by omega), m18]
    by_cases hin : i = ns
    · subst hin
      exact Or.inr ⟨_, by rw [if_pos (nI_le (Nat.le_refl _) (by omega))], hAi, hFi⟩
    · have hlt : i < ns := by omega
      refine Or.inl ?_
      have hr := eP i hlt
      have hw := hW (E (11 + i)) (by omega)
      have hs := hS i hlt
      have ht := eT i (by omega)
      have a11 : Mi o1 (11 + i) = nI (E (11 + i)) := by rw [hAi _ (by omega), tirE, if_neg (by omega)]
      have a17 : Mi o1 (17 + i) = nI (E (17 + i)) := by rw [hAi _ (by omega), tirE, if_neg (by omega)]
      have a3 : Mi o1 3 = nI (E 3) := by rw [hAi _ (by omega), tirE, if_neg (by omega)]
      have a4 : Mi o1 4 = nI (E 4) := by rw [hAi _ (by omega), tirE, if_neg (by omega)]
      have h64 : 2 ^ ns ≤ 64 := by
        have : 2 ^ ns ≤ 2 ^ 6 := Nat.pow_le_pow_right (by omega) hns
        omega
      rw [if_neg (nI_ge hlt (by omega)), show (11 : Int32) + nI i = nI (11 + i) from nI_add 11 i, show (17 : Int32) + nI i = nI (17 + i) from nI_add 17 i, show (3 : Int32) = nI 3 from rfl, show (4 : Int32) = nI 4 from rfl, ix_nI (i := 11 + i) (by omega), ix_nI (i := 17 + i) (by omega), ix_nI (i := 3) (by omega), ix_nI (i := 4) (by omega), ix_nI (i := i) (by omega)]
      rw [Gd_t ((ib_nI (by omega)).mpr (by omega)), Gd_t (by rw [a11]; exact (ib_nI (by omega)).mpr (by omega)), Gd_t ((ib_nI (by omega)).mpr (by omega)), Gd_t ((ib_nI (by omega)).mpr (by omega)), Gd_t ((ib_nI (by omega)).mpr (by omega)), Gd_t ((ib_nI (by omega)).mpr (by omega)), Gd_t ((ib_nI (by omega)).mpr (by omega))]
      simp only [Gd_t ((ib_nI (show 17 + i < 2 ^ 31 by omega)).mpr (show 17 + i < kln o1 by omega))]
      rw [a11, a17, a3, a4, ix_nI (i := E (11 + i)) (by omega), hFi 133 (by omega), hFi 135 (by omega), mW _ (by omega), mS _ hlt, max0 (by omega) (by omega), nI_add, nI_add, has_nI (by omega) (by omega), nI_1]
      have hv : ∃ v, v = tir1 W S E i ∧ (Bd (if (if (E 4).testBit i = true then (1 : Int32) else 0) = 0 then some (nI (E (17 + i) + (W (E (11 + i)) - S i) + E 3)) else some (nI (E (17 + i)))) (fun j30 => some (if j30 ≤ (9999 : Int32) then j30 else (9999 : Int32)))) = some (nI v) := by
        refine ⟨_, rfl, ?_⟩
        unfold tir1
        cases (E 4).testBit i with
        | true =>
          rw [if_pos rfl, if_neg (by decide), if_pos rfl, Bd_some, show (9999 : Int32) = nI 9999 from rfl, if_pos (nI_le ht (by omega))]
        | false =>
          rw [if_pos (show (if false = true then (1 : Int32) else 0) = 0 from rfl), if_neg (by decide), Bd_some, show (9999 : Int32) = nI 9999 from rfl]
          by_cases hq : E (17 + i) + (W (E (11 + i)) - S i) + E 3 ≤ 9999
          · rw [if_pos (nI_le hq (by omega)), Nat.min_eq_right hq]
          · rw [if_neg (nI_ge (by omega) (by omega)), Nat.min_eq_left (by omega)]
      obtain ⟨v, hv1, hv2⟩ := hv
      obtain ⟨y, hy1, hy2⟩ := Option.bind_eq_some_iff.mp hv2
      rw [hy1, Bd_some, Option.some.inj hy2]
      refine ⟨_, rfl, ⟨i + 1, by omega, rfl, ?_, fun o ho2 => (congrFun rfl o).trans ((s2_ne ho2).trans (hFi o ho2))⟩, ?_⟩
      · intro j hj
        show st2 Mi o1 (17 + i) (nI v) o1 j = _
        by_cases hji : j = 17 + i
        · subst hji
          rw [s2_eq, tirE, if_pos (by omega), show 17 + i - 17 = i by omega, hv1]
        · rw [s2_nk hji, hAi j hj, tirE, tirE]
          by_cases hjj : 17 ≤ j ∧ j < 17 + i
          · rw [if_pos hjj, if_pos (by omega)]
          · rw [if_neg hjj, if_neg (by omega)]
      · show ns - (nI (i + 1)).toNatClampNeg < ns - (nI i).toNatClampNeg
        rw [nI_clamp (by omega), nI_clamp (by omega)]
        omega
