/-! the partly read tower, in both -/
def PTc (dt n k ns : Nat) (cl : Option Nat) (W Me S : Nat → Nat) (M : Mm) : Prop := (dt = 1 ∨ dt = 18) ∧ M dt 0 = nI n ∧ M dt 1 = nI k ∧ M dt 2 = nI ns ∧ M dt 3 = (match cl with | none => 0 | some _ => 1) ∧ (∀ i, i < n → M (dt + 3) i = nI (W i)) ∧ (∀ i, i < k → CHr n (Me i) (M (dt + 5 + i))) ∧ (∀ i, i < ns → M (dt + 4) i = nI (S i)) ∧ ∀ c, cl = some c → CHr n c (M (dt + 1))
def PTr (n k ns : Nat) (cl : Option Nat) (W Me S : Nat → Nat) (M : Mm) : Prop := M 128 9 = nI n ∧ M 128 10 = nI k ∧ M 128 11 = nI ns ∧ M 128 12 = (match cl with | none => -1 | some c => nI c) ∧ (∀ i, i < n → M 130 i = nI (W i)) ∧ (∀ i, i < k → M 131 i = nI (Me i)) ∧ ∀ i, i < ns → M 132 i = nI (S i)
theorem CHr_c {n c : Nat} {r r' : Nat → Int32} (h : ∀ j, r' j = r j) (q : CHr n c r) : CHr n c r' := by
  obtain ⟨a, b, c0, c1, c2⟩ := q
  exact ⟨a, b, (h _).trans c0, (h _).trans c1, (h _).trans c2⟩
theorem PTc_c {dt n k ns : Nat} {cl : Option Nat} {W Me S : Nat → Nat} {M M' : Mm} (hk : k ≤ 12) (h : ∀ o j, 1 ≤ o ∧ o ≤ 34 → M' o j = M o j) (c : PTc dt n k ns cl W Me S M) : PTc dt n k ns cl W Me S M' := by
  obtain ⟨c0, c2, c3, c4, c5, c6, c7, c8, c9⟩ := c
  exact ⟨c0, (h _ _ (by omega)).trans c2, (h _ _ (by omega)).trans c3, (h _ _ (by omega)).trans c4, (h _ _ (by omega)).trans c5, fun i hi => (h _ _ (by omega)).trans (c6 i hi), fun i hi => CHr_c (fun j => h _ j (by omega)) (c7 i hi), fun i hi => (h _ _ (by omega)).trans (c8 i hi), fun x hx => CHr_c (fun j => h _ j (by omega)) (c9 x hx)⟩
theorem PTr_c {n k ns : Nat} {cl : Option Nat} {W Me S : Nat → Nat} {M M' : Mm} (h : ∀ o j, (o = 128 ∧ 9 ≤ j ∧ j ≤ 12) ∨ (130 ≤ o ∧ o ≤ 132) → M' o j = M o j) (c : PTr n k ns cl W Me S M) : PTr n k ns cl W Me S M' := by
  obtain ⟨c1, c2, c3, c4, c5, c6, c7⟩ := c
  exact ⟨(h _ _ (by omega)).trans c1, (h _ _ (by omega)).trans c2, (h _ _ (by omega)).trans c3, (h _ _ (by omega)).trans c4, fun i hi => (h _ _ (by omega)).trans (c5 i hi), fun i hi => (h _ _ (by omega)).trans (c6 i hi), fun i hi => (h _ _ (by omega)).trans (c7 i hi)⟩
def FrC (dt : Nat) (M M' : Mm) : Prop := ∀ o j, ¬ ((o = 35 ∧ (j = 1 ∨ j = 3 ∨ j = 4 ∨ j = 5)) ∨ (dt ≤ o ∧ o ≤ dt + 16)) → M' o j = M o j
def FrS (dt : Nat) (M M' : Mm) : Prop := ∀ o j, ¬ ((o = 35 ∧ (j = 3 ∨ j = 4 ∨ j = 5)) ∨ (dt ≤ o ∧ o ≤ dt + 16)) → M' o j = M o j
theorem FsC {dt : Nat} {M M' : Mm} (h : FrS dt M M') : FrC dt M M' := fun o j g => h o j (by omega)
def FrR (M M' : Mm) : Prop := ∀ o j, ¬ ((o = 128 ∧ 2 ≤ j ∧ j ≤ 12) ∨ (130 ≤ o ∧ o ≤ 132)) → M' o j = M o j
def hdT (e13 : Mm) : Option (Int32 × Mm) := (if (e13 128 4) = (59 : Int32) then (if (2 : Int32) < (e13 128 9) then some ((1 : Int32), e13) else Bd (f_X12_fails 128 (1 : Int32) e13) (fun r16 => (if r16.1 = 0 then some ((0 : Int32), r16.2) else some ((1 : Int32), r16.2)))) else Bd (f_X12_fails 128 (1 : Int32) e13) (fun r18 => (if r18.1 = 0 then some ((0 : Int32), r18.2) else some ((1 : Int32), r18.2))))
theorem Lp_s {σ τ : Type} {f : σ → Option (σ ⊕ τ)} {n : Nat} {s s' : σ} (h : f s = some (.inl s')) : Lp f (n + 1) s = Lp f n s' := by simp only [Lp, h, Option.bind_some]
theorem Lp_e {σ τ : Type} {f : σ → Option (σ ⊕ τ)} {n : Nat} {s : σ} {t : τ} (h : f s = some (.inr t)) : Lp f (n + 1) s = some t := by simp only [Lp, h, Option.bind_some]
/-- addBell through Text.enter -/
theorem enterB {dt j v : Nat} {W Me S : Nat → Nat} {M : Mm} (h : PTc dt j 0 0 none W Me S M) (hj : j < 6) : ∃ M', f_X7_enter (nI 98) (nI v) dt M = some (1, M') ∧ PTc dt (j + 1) 0 0 none (fun i => if i = j then v else W i) Me S M' ∧ ∀ o i, ¬ ((o = dt ∧ i = 0) ∨ o = dt + 3) → M' o i = M o i := by
  obtain ⟨c0, c2, c3, c4, c5, c6, c7, c8, c9⟩ := h
  unfold f_X7_enter f_X9_addBell
  simp only [Lt_eq]
  have hg : ib (M dt 0) 6 := by rw [c2]; exact (ib_nI (by omega)).mpr hj
  rw [if_pos (show nI 98 = (98 : Int32) from rfl), if_neg (show ¬ (6 : Int32) ≤ M dt 0 by rw [c2]; exact nI_ge (b := 6) hj (by omega)), Gd_t hg, c2, ix_nI (by omega), nI_1, Bd_some]
  refine ⟨_, rfl, ⟨c0, by rw [s2_ne (by omega), s2_eq], by rw [s2_ne (by omega), s2_nk (by omega)]; exact c3, by rw [s2_ne (by omega), s2_nk (by omega)]; exact c4, by rw [s2_ne (by omega), s2_nk (by omega)]; exact c5, fun i hi => ?_, fun i hi => absurd hi (by omega), fun i hi => absurd hi (by omega), fun c hc => by cases hc⟩, fun o i g => by rw [s2_at, if_neg (by omega), s2_at, if_neg (by omega)]⟩
  show st2 _ (dt + 3) j (nI v) (dt + 3) i = nI (if i = j then v else W i)
  rw [s2_at]
  by_cases e : i = j
  · rw [if_pos ⟨rfl, e⟩, if_pos e]
  · rw [if_neg (by omega), if_neg e, s2_ne (by omega)]
    exact c6 i (by omega)
/-- one round of readClause's loop that goes wrong at the number -/
theorem rc_fail {dt wd told fl q f : Nat} {Mc : Mm} (hfl : fl = 1 ∨ fl = 2) (hto : told ≤ mostW wd) (hrd : ∃ v M', f_X7_readNumber 35 (nI wd) dt Mc = some (v, M') ∧ M' 35 5 = nI fl ∧ M' 35 1 = nI q ∧ ∀ o j, ¬ (o = 35 ∧ (j = 1 ∨ j = 3 ∨ j = 4 ∨ j = 5)) → M' o j = Mc o j) (hf : 2 ≤ f) : ∃ M', Lp (b_X7_readClause_47 35 dt (nI wd) (nI (mostW wd))) f ((1 : Int32), nI told, Mc) = some M' ∧ M' 35 5 = nI fl ∧ M' 35 1 = nI q ∧ ∀ o j, ¬ (o = 35 ∧ (j = 1 ∨ j = 3 ∨ j = 4 ∨ j = 5)) → M' o j = Mc o j := by
  obtain ⟨v, M', r1, r2, r3, r4⟩ := hrd
  have hm := mostW_le wd
  have hne : ¬ M' 35 5 = 0 := by rw [r2]; exact nI_ne0 (by omega) (by omega)
  obtain ⟨f', rfl⟩ : ∃ f', f = f' + 2 := ⟨f - 2, by omega⟩
  have s1 : b_X7_readClause_47 35 dt (nI wd) (nI (mostW wd)) ((1 : Int32), nI told, Mc) = some (.inl ((0 : Int32), nI (told + 1), M')) := by
    unfold b_X7_readClause_47
    simp only [Lt_eq]
    rw [if_neg (nI_nlt hto (by omega)), if_neg one_ne, r1, Bd_some]
    dsimp only
    rw [if_neg hne, Bd_some, if_neg hne, Bd_some, nI_1]
  have s2 : b_X7_readClause_47 35 dt (nI wd) (nI (mostW wd)) ((0 : Int32), nI (told + 1), M') = some (.inr M') := by
    unfold b_X7_readClause_47
    by_cases c : nI (mostW wd) < nI (told + 1)
    · rw [if_pos c]
    · rw [if_neg c, if_pos rfl]
  exact ⟨M', by rw [Lp_s s1, Lp_e s2], r2, r3, r4⟩
