/-! rows seen: a bit each in the class, a list of figures in the reference -/
theorem nI_z {v : Nat} (h : v < 2 ^ 32) : nI v = 0 ↔ v = 0 := by
  constructor
  · intro e
    have e2 : (nI v).toBitVec = (0 : Int32).toBitVec := by rw [e]
    have e3 : (BitVec.ofNat 32 v).toNat = 0 := by
      have : (nI v).toBitVec = BitVec.ofNat 32 v := rfl
      rw [← this, e2]; rfl
    rw [BitVec.toNat_ofNat, Nat.mod_eq_of_lt h] at e3
    exact e3
  · intro e; rw [e]; rfl
def SS (P : Nat → Prop) (M : Mm) : Prop := ∃ ws : Nat → Nat, (∀ j, j < 1024 → ws j < 2 ^ 32 ∧ M 110 j = nI (ws j)) ∧ ∀ c, c < 32768 → ((ws (c / 32)).testBit (c % 32) = true ↔ P c)
theorem SS_c {P : Nat → Prop} {M M' : Mm} (h : M' 110 = M 110) (c : SS P M) : SS P M' := by
  obtain ⟨ws, h1, h2⟩ := c
  exact ⟨ws, fun j hj => ⟨(h1 j hj).1, by rw [h]; exact (h1 j hj).2⟩, h2⟩
theorem SS_iff {P Q : Nat → Prop} {M : Mm} (h : ∀ c, c < 32768 → (P c ↔ Q c)) (s : SS P M) : SS Q M := by
  obtain ⟨ws, h1, h2⟩ := s
  exact ⟨ws, h1, fun c hc => (h2 c hc).trans (h c hc)⟩
theorem seen_clear {M : Mm} : ∃ M', f_X6_clear 109 M = some M' ∧ SS (fun _ => False) M' ∧ ∀ o, o ≠ 110 → M' o = M o := by
  have k110 : kln 110 = 1024 := by decide
  obtain ⟨M', g1, g2, g3⟩ := fill_spec (o1 := 110) (x := 0) (M := M) (by rw [k110]; omega)
  unfold f_X6_clear
  rw [g1, Bd_some]
  refine ⟨M', rfl, ⟨fun _ => 0, fun j hj => ⟨by show 0 < 2 ^ 32; omega, by rw [g2 j (by rw [k110]; exact hj)]; rfl⟩, fun c _ => ?_⟩, g3⟩
  rw [Nat.zero_testBit]
  constructor
  · intro e; exact absurd e (by simp)
  · intro e; exact e.elim
theorem code15 (a : Nat) : nI a &&& (32767 : Int32) = nI (a % 32768) := by
  rw [show (32767 : Int32) = nI (2 ^ 15 - 1) from rfl, nI_and, Nat.and_two_pow_sub_one_eq_mod]
theorem sl1b {p : Nat} (h : p < 32) : sl (1 : Int32) (nI p) = nI (2 ^ p) := by
  have := sl_nI (a := 1) (k := p) h (by rw [Nat.one_mul]; exact Nat.pow_lt_pow_right (by omega) h)
  rw [Nat.one_mul] at this
  exact this
theorem and_bit {w b : Nat} (hw : w < 2 ^ 32) (hb : b < 32) : nI w &&& nI (2 ^ b) = 0 ↔ ¬ w.testBit b = true := by
  rw [nI_and, nI_z (Nat.lt_of_le_of_lt Nat.and_le_left hw)]
  constructor
  · intro e q
    have h1 : (w &&& 2 ^ b).testBit b = true := by rw [Nat.testBit_and, Nat.testBit_two_pow, q, decide_eq_true rfl]; rfl
    rw [e, Nat.zero_testBit] at h1
    exact absurd h1 (by simp)
  · intro q
    apply Nat.eq_of_testBit_eq
    intro i
    rw [Nat.testBit_and, Nat.testBit_two_pow, Nat.zero_testBit]
    by_cases e : b = i
    · subst e
      have : w.testBit b = false := by simpa using q
      rw [this]; rfl
    · rw [decide_eq_false e, Bool.and_false]
theorem seen_add {P : Nat → Prop} {M : Mm} {a : Nat} (hs : SS P M) : (P (a % 32768) → f_X6_add 109 (nI a) M = some (0, M)) ∧ (¬ P (a % 32768) → ∃ M', f_X6_add 109 (nI a) M = some (1, M') ∧ SS (fun d => P d ∨ d = a % 32768) M' ∧ ∀ o, o ≠ 110 → M' o = M o) := by
  obtain ⟨ws, h1, h2⟩ := hs
  generalize hc : a % 32768 = c
  have hc2 : c < 32768 := by omega
  have hd : c / 32 < 1024 := by omega
  have hm : c % 32 < 32 := by omega
  obtain ⟨b1, b2⟩ := h1 (c / 32) hd
  have h3 := h2 c hc2
  have e1 : f_X6_add 109 (nI a) M = if nI (ws (c / 32)) &&& nI (2 ^ (c % 32)) = 0 then some ((1 : Int32), st2 M 110 (c / 32) (nI (ws (c / 32) ||| 2 ^ (c % 32)))) else some ((0 : Int32), M) := by
    unfold f_X6_add
    simp only [Lt_eq]
    rw [code15, hc, show rm (nI c) (32 : Int32) = nI (c % 32) from rm_nI (b := 32) (by omega) (by omega) (by omega), show nI c / (32 : Int32) = nI (c / 32) from pk_div (d := 32) (by omega) (by omega) (by omega), sl1b hm, Gd_t ((ib_nI (by omega)).mpr hd), Gd_t ((ib_nI (by omega)).mpr hd), Gd_t ((ib_nI (by omega)).mpr hd), ix_nI (by omega), b2, nI_or]
  rw [e1]
  refine ⟨fun hp => ?_, fun hp => ?_⟩
  · rw [if_neg (fun q => ((and_bit b1 hm).mp q) (h3.mpr hp))]
  · rw [if_pos ((and_bit b1 hm).mpr (fun q => hp (h3.mp q)))]
    refine ⟨_, rfl, ⟨fun j => if j = c / 32 then ws j ||| 2 ^ (c % 32) else ws j, fun j hj => ?_, fun d hd2 => ?_⟩, fun o ho => by rw [s2_ne ho]⟩
    · show (if j = c / 32 then ws j ||| 2 ^ (c % 32) else ws j) < 2 ^ 32 ∧ st2 M 110 (c / 32) _ 110 j = nI (if j = c / 32 then ws j ||| 2 ^ (c % 32) else ws j)
      rw [s2_at]
      by_cases e : j = c / 32
      · rw [if_pos e, if_pos ⟨rfl, e⟩, e]
        exact ⟨Nat.or_lt_two_pow b1 (Nat.pow_lt_pow_right (by omega) hm), rfl⟩
      · rw [if_neg e, if_neg (by omega)]
        exact h1 j hj
    · show (if d / 32 = c / 32 then ws (d / 32) ||| 2 ^ (c % 32) else ws (d / 32)).testBit (d % 32) = true ↔ _
      have h4 := h2 d hd2
      by_cases e : d / 32 = c / 32
      · rw [if_pos e, Nat.testBit_or, Nat.testBit_two_pow, Bool.or_eq_true, h4]
        constructor
        · rintro (q | q)
          · exact Or.inl q
          · have := of_decide_eq_true q
            exact Or.inr (by omega)
        · rintro (q | q)
          · exact Or.inl q
          · exact Or.inr (decide_eq_true (by rw [q]))
      · rw [if_neg e, h4]
        constructor
        · exact Or.inl
        · rintro (q | q)
          · exact q
          · exact absurd (by rw [q]) e
theorem seen_remove {P : Nat → Prop} {M : Mm} {a : Nat} (hs : SS P M) : ∃ M', f_X6_remove 109 (nI a) M = some M' ∧ SS (fun d => P d ∧ ¬ d = a % 32768) M' ∧ ∀ o, o ≠ 110 → M' o = M o := by
  obtain ⟨ws, h1, h2⟩ := hs
  generalize hc : a % 32768 = c
  have hc2 : c < 32768 := by omega
  have hd : c / 32 < 1024 := by omega
  have hm : c % 32 < 32 := by omega
  obtain ⟨b1, b2⟩ := h1 (c / 32) hd
  unfold f_X6_remove
  simp only [Lt_eq]
  rw [code15, hc, show rm (nI c) (32 : Int32) = nI (c % 32) from rm_nI (b := 32) (by omega) (by omega) (by omega), show nI c / (32 : Int32) = nI (c / 32) from pk_div (d := 32) (by omega) (by omega) (by omega), sl1b hm, Gd_t ((ib_nI (by omega)).mpr hd), Gd_t ((ib_nI (by omega)).mpr hd), ix_nI (by omega), b2, show (-1 : Int32) = nI (2 ^ 32 - 1) by decide, nI_xor, nI_and]
  refine ⟨_, rfl, ⟨fun j => if j = c / 32 then ws j &&& (2 ^ (c % 32) ^^^ (2 ^ 32 - 1)) else ws j, fun j hj => ?_, fun d hd2 => ?_⟩, fun o ho => by rw [s2_ne ho]⟩
  · show (if j = c / 32 then ws j &&& (2 ^ (c % 32) ^^^ (2 ^ 32 - 1)) else ws j) < 2 ^ 32 ∧ st2 M 110 (c / 32) _ 110 j = nI (if j = c / 32 then ws j &&& (2 ^ (c % 32) ^^^ (2 ^ 32 - 1)) else ws j)
    rw [s2_at]
    by_cases e : j = c / 32
    · rw [if_pos e, if_pos ⟨rfl, e⟩, e]
      exact ⟨Nat.lt_of_le_of_lt Nat.and_le_left b1, rfl⟩
    · rw [if_neg e, if_neg (by omega)]
      exact h1 j hj
  · show (if d / 32 = c / 32 then ws (d / 32) &&& (2 ^ (c % 32) ^^^ (2 ^ 32 - 1)) else ws (d / 32)).testBit (d % 32) = true ↔ _
    have h4 := h2 d hd2
    by_cases e : d / 32 = c / 32
    · rw [if_pos e, Nat.testBit_and, Nat.testBit_xor, Nat.testBit_two_pow, Nat.testBit_two_pow_sub_one, Bool.and_eq_true, h4]
      have hd32 : decide (d % 32 < 32) = true := decide_eq_true (by omega)
      rw [hd32]
      by_cases q : c % 32 = d % 32
      · rw [decide_eq_true q]
        constructor
        · rintro ⟨-, z⟩; exact absurd z (by simp)
        · rintro ⟨-, z⟩; exact absurd (by omega) z
      · rw [decide_eq_false q]
        constructor
        · rintro ⟨z, -⟩; exact ⟨z, fun y => q (by rw [y])⟩
        · rintro ⟨z, -⟩; exact ⟨z, by simp⟩
    · rw [if_neg e, h4]
      constructor
      · intro z; exact ⟨z, fun y => e (by rw [y])⟩
      · rintro ⟨z, -⟩; exact z
/-! the reference's list -/
def MMt (m : Nat) (v : Nat → Nat) (M : Mm) : Prop := M 128 36 = nI m ∧ ∀ i, i < m → M 144 i = nI (v i) ∧ v i < 2 ^ 31
theorem isNew_0 {m a : Nat} {v : Nat → Nat} {M : Mm} (h : MMt m v M) (hm : m ≤ 1001) (ha : a < 2 ^ 31) (he : ∃ i, i < m ∧ v i = a) : f_X12_isNew 128 (nI a) M = some (0, M) := by
  obtain ⟨h0, h1⟩ := h
  rcases firstW (fun i => ¬ v i = a) (fun i => Classical.em _) m with hall | ⟨i0, z1, z2, z3⟩
  · obtain ⟨i, hi, e⟩ := he
    exact absurd e (hall i hi)
  · have z2' : v i0 = a := Classical.not_not.mp z2
    unfold f_X12_isNew
    have hs : ∀ i, i < i0 → b_X12_isNew_2 128 (nI a) M (nI i) = some (.inl (nI (i + 1))) := fun i hi => by
      have hv := h1 i (by omega)
      unfold b_X12_isNew_2
      simp only [Lt_eq]
      rw [if_neg (show ¬ M 128 36 ≤ nI i by rw [h0]; exact nI_ge (by omega) (by omega)), Gd_t ((ib_nI (by omega)).mpr (by omega)), ix_nI (by omega), if_neg (show ¬ M 144 i = nI a by rw [hv.1]; exact fun q => z3 i hi (nI_inj hv.2 ha q)), nI_1]
    have hend : b_X12_isNew_2 128 (nI a) M (nI i0) = some (.inr (.inl ((0 : Int32), M))) := by
      have hv := h1 i0 z1
      unfold b_X12_isNew_2
      rw [if_neg (show ¬ M 128 36 ≤ nI i0 by rw [h0]; exact nI_ge z1 (by omega)), Gd_t ((ib_nI (by omega)).mpr (by omega)), ix_nI (by omega), if_pos (show M 144 i0 = nI a by rw [hv.1, z2'])]
    exact BdS_LpL (s0 := (0 : Int32)) (fun i => nI i) i0 ((0 : Int32), M) rfl hs hend (by omega)
theorem isNew_1 {m a : Nat} {v : Nat → Nat} {M : Mm} (h : MMt m v M) (hm : m < 1001) (ha : a < 2 ^ 31) (he : ∀ i, i < m → ¬ v i = a) : ∃ M', f_X12_isNew 128 (nI a) M = some (1, M') ∧ MMt (m + 1) (fun i => if i = m then a else v i) M' ∧ ∀ o j, ¬ (o = 144 ∨ (o = 128 ∧ j = 36)) → M' o j = M o j := by
  obtain ⟨h0, h1⟩ := h
  unfold f_X12_isNew
  have hs : ∀ i, i < m → b_X12_isNew_2 128 (nI a) M (nI i) = some (.inl (nI (i + 1))) := fun i hi => by
    have hv := h1 i hi
    unfold b_X12_isNew_2
    simp only [Lt_eq]
    rw [if_neg (show ¬ M 128 36 ≤ nI i by rw [h0]; exact nI_ge hi (by omega)), Gd_t ((ib_nI (by omega)).mpr (by omega)), ix_nI (by omega), if_neg (show ¬ M 144 i = nI a by rw [hv.1]; exact fun q => he i hi (nI_inj hv.2 ha q)), nI_1]
  have hend : b_X12_isNew_2 128 (nI a) M (nI m) = some (.inr (.inr ())) := by
    unfold b_X12_isNew_2
    rw [if_pos (show M 128 36 ≤ nI m by rw [h0]; exact nI_le (Nat.le_refl _) (by omega))]
  rw [BdS_LpR (s0 := (0 : Int32)) (fun i => nI i) m () rfl hs hend (by omega)]
  simp only [Lt_eq, h0]
  rw [Gd_t ((ib_nI (by omega)).mpr (by omega)), ix_nI (by omega), s2_ne (show 128 ≠ 144 by omega), h0, nI_1]
  refine ⟨_, rfl, ⟨by rw [s2_eq], fun i hi => ?_⟩, fun o j q => by rw [s2_at, if_neg (by omega), s2_at, if_neg (by omega)]⟩
  show st2 (st2 M 144 m (nI a)) 128 36 (nI (m + 1)) 144 i = nI (if i = m then a else v i) ∧ (if i = m then a else v i) < 2 ^ 31
  rw [s2_ne (by omega), s2_at]
  by_cases e : i = m
  · rw [if_pos ⟨rfl, e⟩, if_pos e]; exact ⟨rfl, ha⟩
  · rw [if_neg (by omega), if_neg e]; exact h1 i (by omega)
/-- both hold the same rows: those with an index below m -/
def SPc (cC : Nat → Nat) (m : Nat) (c : Nat) : Prop := ∃ i, i < m ∧ cC i % 32768 = c
def MPc (cR : Nat → Nat) (m : Nat) (M : Mm) : Prop := ∃ (mm : Nat) (v : Nat → Nat), mm ≤ m ∧ MMt mm v M ∧ ∀ a, (∃ j, j < mm ∧ v j = a) ↔ ∃ i, i < m ∧ cR i = a
theorem addC {cC : Nat → Nat} {m : Nat} {M : Mm} (hs : SS (SPc cC m) M) : ((∃ i, i < m ∧ cC i % 32768 = cC m % 32768) → f_X6_add 109 (nI (cC m)) M = some (0, M) ∧ SS (SPc cC (m + 1)) M) ∧ ((∀ i, i < m → ¬ cC i % 32768 = cC m % 32768) → ∃ M', f_X6_add 109 (nI (cC m)) M = some (1, M') ∧ SS (SPc cC (m + 1)) M' ∧ ∀ o, o ≠ 110 → M' o = M o) := by
  obtain ⟨h1, h2⟩ := seen_add (a := cC m) hs
  refine ⟨fun he => ⟨h1 he, SS_iff (fun c _ => ?_) hs⟩, fun he => ?_⟩
  · constructor
    · rintro ⟨i, hi, e⟩; exact ⟨i, by omega, e⟩
    · rintro ⟨i, hi, e⟩
      by_cases q : i = m
      · obtain ⟨j, hj, e2⟩ := he
        exact ⟨j, hj, by rw [e2, ← q, e]⟩
      · exact ⟨i, by omega, e⟩
  · obtain ⟨M', g1, g2, g3⟩ := h2 (fun ⟨i, hi, e⟩ => he i hi e)
    refine ⟨M', g1, SS_iff (fun c _ => ?_) g2, g3⟩
    constructor
    · rintro (⟨i, hi, e⟩ | e)
      · exact ⟨i, by omega, e⟩
      · exact ⟨m, by omega, e.symm⟩
    · rintro ⟨i, hi, e⟩
      by_cases q : i = m
      · exact Or.inr (by rw [← q, e])
      · exact Or.inl ⟨i, by omega, e⟩
theorem addM {cR : Nat → Nat} {m : Nat} {M : Mm} (hm : m < 1001) (ha : cR m < 2 ^ 31) (hs : MPc cR m M) : ((∃ i, i < m ∧ cR i = cR m) → f_X12_isNew 128 (nI (cR m)) M = some (0, M) ∧ MPc cR (m + 1) M) ∧ ((∀ i, i < m → ¬ cR i = cR m) → ∃ M', f_X12_isNew 128 (nI (cR m)) M = some (1, M') ∧ MPc cR (m + 1) M' ∧ ∀ o j, ¬ (o = 144 ∨ (o = 128 ∧ j = 36)) → M' o j = M o j) := by
  obtain ⟨mm, v, h1, h2, h3⟩ := hs
  refine ⟨fun he => ⟨isNew_0 h2 (by omega) ha ((h3 _).mpr he), mm, v, by omega, h2, fun a => (h3 a).trans ?_⟩, fun he => ?_⟩
  · constructor
    · rintro ⟨i, hi, e⟩; exact ⟨i, by omega, e⟩
    · rintro ⟨i, hi, e⟩
      by_cases q : i = m
      · obtain ⟨j, hj, e2⟩ := he
        exact ⟨j, hj, by rw [e2, ← q, e]⟩
      · exact ⟨i, by omega, e⟩
  · obtain ⟨M', g1, g2, g3⟩ := isNew_1 h2 (by omega) ha (fun i hi e => by
      obtain ⟨j, hj, e2⟩ := (h3 (cR m)).mp ⟨i, hi, e⟩
      exact he j hj e2)
    refine ⟨M', g1, ⟨mm + 1, _, by omega, g2, fun a => ?_⟩, g3⟩
    constructor
    · rintro ⟨j, hj, e⟩
      have e' : (if j = mm then cR m else v j) = a := e
      by_cases q : j = mm
      · rw [if_pos q] at e'; exact ⟨m, by omega, e'⟩
      · rw [if_neg q] at e'
        obtain ⟨i, hi, e2⟩ := (h3 a).mp ⟨j, by omega, e'⟩
        exact ⟨i, by omega, e2⟩
    · rintro ⟨i, hi, e⟩
      by_cases q : i = m
      · exact ⟨mm, by omega, by show (if mm = mm then cR m else v mm) = a; rw [if_pos rfl, ← q, e]⟩
      · obtain ⟨j, hj, e2⟩ := (h3 a).mpr ⟨i, by omega, e⟩
        exact ⟨j, by omega, by show (if j = mm then cR m else v j) = a; rw [if_neg (by omega), e2]⟩
