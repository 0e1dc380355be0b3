/-! touches: which sets of called leads -/
def fstN (Q : Nat → Bool) : Nat → Option Nat
  | 0 => none
  | m + 1 => match fstN Q m with
    | some i => some i
    | none => if Q m = true then some m else none
theorem fstN_none {Q : Nat → Bool} : ∀ m, fstN Q m = none ↔ ∀ i, i < m → ¬ Q i = true
  | 0 => ⟨fun _ i hi => absurd hi (by omega), fun _ => rfl⟩
  | m + 1 => by
    have ih := fstN_none (Q := Q) m
    constructor
    · intro h i hi
      have h' : (match fstN Q m with
        | some i => some i
        | none => if Q m = true then some m else none) = none := h
      cases hf : fstN Q m with
      | some j => rw [hf] at h'; exact absurd h' (by simp)
      | none =>
        rw [hf] at h'
        by_cases e : i = m
        · intro q
          rw [e] at q
          rw [if_pos q] at h'
          exact absurd h' (by simp)
        · exact ih.mp hf i (by omega)
    · intro h
      have hf := ih.mpr (fun i hi => h i (by omega))
      show (match fstN Q m with
        | some i => some i
        | none => if Q m = true then some m else none) = none
      rw [hf]
      show (if Q m = true then some m else none) = none
      rw [if_neg (h m (by omega))]
theorem fstN_some {Q : Nat → Bool} {f : Nat} : ∀ m, (f < m ∧ Q f = true ∧ ∀ i, i < f → ¬ Q i = true) → fstN Q m = some f
  | 0, h => by omega
  | m + 1, ⟨h1, h2, h3⟩ => by
    show (match fstN Q m with
      | some i => some i
      | none => if Q m = true then some m else none) = some f
    by_cases e : f = m
    · subst e
      rw [(fstN_none f).mpr h3]
      show (if Q f = true then some f else none) = some f
      rw [if_pos h2]
    · rw [fstN_some m ⟨by omega, h2, h3⟩]
theorem fstN_is {Q : Nat → Bool} {f : Nat} : ∀ m, fstN Q m = some f → f < m ∧ Q f = true ∧ ∀ i, i < f → ¬ Q i = true
  | 0, h => by exact absurd h (by simp [fstN])
  | m + 1, h => by
    have h' : (match fstN Q m with
      | some i => some i
      | none => if Q m = true then some m else none) = some f := h
    cases hf : fstN Q m with
    | some j =>
      rw [hf] at h'
      have : j = f := by simpa using h'
      subst this
      have := fstN_is m hf
      exact ⟨by omega, this.2⟩
    | none =>
      rw [hf] at h'
      by_cases q : Q m = true
      · have h2 : (if Q m = true then some m else none) = some f := h'
        rw [if_pos q] at h2
        have : m = f := by simpa using h2
        subst this
        exact ⟨by omega, q, (fstN_none m).mp hf⟩
      · have h2 : (if Q m = true then some m else none) = some f := h'
        rw [if_neg q] at h2
        exact absurd h2 (by simp)
theorem cntL_congr {P Q : Nat → Bool} : ∀ m, (∀ i, i < m → P i = Q i) → cntL P m = cntL Q m
  | 0, _ => rfl
  | m + 1, h => by
    show cntL P m + (if P m = true then 1 else 0) = cntL Q m + (if Q m = true then 1 else 0)
    rw [cntL_congr m (fun i hi => h i (by omega)), h m (by omega)]
theorem fstN_congr {P Q : Nat → Bool} : ∀ m, (∀ i, i < m → P i = Q i) → fstN P m = fstN Q m
  | 0, _ => rfl
  | m + 1, h => by
    show (match fstN P m with
      | some i => some i
      | none => if P m = true then some m else none) = (match fstN Q m with
      | some i => some i
      | none => if Q m = true then some m else none)
    rw [fstN_congr m (fun i hi => h i (by omega)), h m (by omega)]
theorem cntL_add {Q : Nat → Bool} {A : Nat} (hA : ¬ Q A = true) : ∀ m, A < m → cntL (fun i => Q i || (i == A)) m = cntL Q m + 1
  | 0, h => by omega
  | m + 1, h => by
    show cntL (fun i => Q i || (i == A)) m + (if (Q m || (m == A)) = true then 1 else 0) = cntL Q m + (if Q m = true then 1 else 0) + 1
    by_cases e : m = A
    · subst e
      rw [cntL_congr (Q := Q) m (fun i hi => by
        show (Q i || (i == m)) = Q i
        rw [show (i == m) = false by simp; omega, Bool.or_false]), if_pos (by simp), if_neg hA]
    · rw [cntL_add hA m (by omega), show (m == A) = false by simp; omega, Bool.or_false]
      omega
theorem cntL_0 {Q : Nat → Bool} : ∀ m, cntL Q m = 0 ↔ ∀ i, i < m → ¬ Q i = true
  | 0 => ⟨fun _ i hi => absurd hi (by omega), fun _ => rfl⟩
  | m + 1 => by
    have ih := cntL_0 (Q := Q) m
    constructor
    · intro h i hi
      have h' : cntL Q m + (if Q m = true then 1 else 0) = 0 := h
      by_cases e : i = m
      · intro q
        rw [e] at q
        rw [if_pos q] at h'
        omega
      · exact ih.mp (by omega) i (by omega)
    · intro h
      show cntL Q m + (if Q m = true then 1 else 0) = 0
      rw [ih.mpr (fun i hi => h i (by omega)), if_neg (h m (by omega))]
theorem cntL_le {Q : Nat → Bool} : ∀ m, cntL Q m ≤ m
  | 0 => Nat.le_refl _
  | m + 1 => by
    have := cntL_le (Q := Q) m
    show cntL Q m + (if Q m = true then 1 else 0) ≤ m + 1
    split <;> omega
/-- one more -/
theorem fstN_add {Q : Nat → Bool} {A m : Nat} (hA : A < m) : fstN (fun i => Q i || (i == A)) m = some (match fstN Q m with
    | none => A
    | some f => if A < f then A else f) := by
  cases hf : fstN Q m with
  | none =>
    have h := (fstN_none m).mp hf
    show _ = some A
    refine fstN_some m ⟨hA, by simp, fun i hi q => ?_⟩
    have q' : (Q i || (i == A)) = true := q
    rw [show (i == A) = false by simp; omega, Bool.or_false] at q'
    exact h i (by omega) q'
  | some f =>
    obtain ⟨h1, h2, h3⟩ := fstN_is m hf
    show _ = some (if A < f then A else f)
    by_cases c : A < f
    · rw [if_pos c]
      refine fstN_some m ⟨hA, by simp, fun i hi q => ?_⟩
      have q' : (Q i || (i == A)) = true := q
      rw [show (i == A) = false by simp; omega, Bool.or_false] at q'
      exact h3 i (by omega) q'
    · rw [if_neg c]
      refine fstN_some m ⟨h1, by show (Q f || (f == A)) = true; rw [h2]; rfl, fun i hi q => ?_⟩
      have q' : (Q i || (i == A)) = true := q
      rw [show (i == A) = false by simp; omega, Bool.or_false] at q'
      exact h3 i hi q'
/-! rows along a touch -/
def chA (k C : Nat) (Me : Nat → Nat) (A j : Nat) : Nat := if j % k = k - 1 ∧ A.testBit (j / k) = true then C else Me (j % k)
def rwA (k C : Nat) (Me : Nat → Nat) (A : Nat) : Nat → Nat → Nat
  | 0 => fun p => p
  | j + 1 => fun p => rwA k C Me A j (pm (chA k C Me A j) p)
theorem chA_isC {n k ns C A j : Nat} {Me W S : Nat → Nat} (hV : TV n k ns C Me W S) (hk : 0 < k) : isC n (chA k C Me A j) = true := by
  unfold chA
  split
  · exact hV.2.2.1
  · exact (hV.2.2.2.1 _ (Nat.mod_lt _ hk)).2
theorem prm_rwA {n k ns C A : Nat} {Me W S : Nat → Nat} (hV : TV n k ns C Me W S) (hk : 0 < k) : ∀ j, prm n (rwA k C Me A j)
  | 0 => ⟨fun p hp => hp, fun _ _ _ _ e => e⟩
  | j + 1 => by
    have ih := prm_rwA (A := A) hV hk j
    have hc := chA_isC (A := A) (j := j) hV hk
    exact ⟨fun p hp => ih.1 _ (pm_lt hc hp), fun p q hp hq e => pm_inj hc hp hq (ih.2 _ _ (pm_lt hc hp) (pm_lt hc hq) e)⟩
theorem rwA_congr {k C A B : Nat} {Me : Nat → Nat} : ∀ j, (∀ q, q < j → chA k C Me A q = chA k C Me B q) → rwA k C Me A j = rwA k C Me B j
  | 0, _ => rfl
  | j + 1, h => by
    show (fun p => rwA k C Me A j (pm (chA k C Me A j) p)) = (fun p => rwA k C Me B j (pm (chA k C Me B j) p))
    rw [rwA_congr j (fun q hq => h q (by omega)), h j (by omega)]
theorem chA_agree {k C A B l q : Nat} {Me : Nat → Nat} (hk : 0 < k) (h : ∀ i, i < l → A.testBit i = B.testBit i) (hq : q < l * k + (k - 1)) : chA k C Me A q = chA k C Me B q := by
  unfold chA
  by_cases e : q % k = k - 1
  · have hl : q / k < l := by
      apply Classical.byContradiction
      intro hno
      have h1 := Nat.div_add_mod q k
      have h2 : l * k ≤ q / k * k := Nat.mul_le_mul_right k (by omega)
      rw [Nat.mul_comm k (q / k)] at h1
      omega
    rw [h _ hl]
  · rw [if_neg (fun z => e z.1), if_neg (fun z => e z.1)]
theorem rwA_agree {k C A B l j : Nat} {Me : Nat → Nat} (hk : 0 < k) (h : ∀ i, i < l → A.testBit i = B.testBit i) (hj : j ≤ l * k + (k - 1)) : rwA k C Me A j = rwA k C Me B j :=
  rwA_congr j (fun q hq => chA_agree hk h (by omega))
/-- a touch of L leads -/
def tchP (n k C : Nat) (Me : Nat → Nat) (L A : Nat) : Prop := (∀ j, j < L * k → ∀ q, q < j → ¬ figs n (rwA k C Me A q) = figs n (rwA k C Me A j)) ∧ figs n (rwA k C Me A (L * k)) = figs n (fun p => p)
def tchB (n k C : Nat) (Me : Nat → Nat) (L A : Nat) : Bool := decide ((∀ j, j < L * k → ∀ q, q < j → ¬ figs n (rwA k C Me A q) = figs n (rwA k C Me A j)) ∧ figs n (rwA k C Me A (L * k)) = figs n (fun p => p))
theorem tchB_t {n k C L A : Nat} {Me : Nat → Nat} : tchB n k C Me L A = true ↔ tchP n k C Me L A := by
  unfold tchB tchP
  exact ⟨fun h => of_decide_eq_true h, fun h => decide_eq_true h⟩
/-- count and first hold the sets of Q -/
def Rep (L : Nat) (Q : Nat → Bool) (M : Mm) : Prop := M 111 0 = nI (cntL Q (2 ^ L)) ∧ M 111 1 = lI (fstN Q (2 ^ L))
theorem Rep_congr {L : Nat} {P Q : Nat → Bool} {M : Mm} (h : ∀ i, i < 2 ^ L → P i = Q i) (r : Rep L P M) : Rep L Q M :=
  ⟨r.1.trans (by rw [cntL_congr _ h]), r.2.trans (by rw [fstN_congr _ h])⟩
theorem Rep_c {L : Nat} {Q : Nat → Bool} {M M' : Mm} (h : ∀ j, j ≤ 1 → M' 111 j = M 111 j) (r : Rep L Q M) : Rep L Q M' := ⟨(h 0 (by omega)).trans r.1, (h 1 (by omega)).trans r.2⟩
theorem p8_le {L : Nat} (h : L ≤ 8) : 2 ^ L ≤ 256 := by
  have : 2 ^ L ≤ 2 ^ 8 := Nat.pow_le_pow_right (by omega) h
  omega
theorem Rep_add {L A : Nat} {Q : Nat → Bool} {M : Mm} (hL : L ≤ 8) (hA : A < 2 ^ L) (hq : ¬ Q A = true) (r : Rep L Q M) : Rep L (fun i => Q i || (i == A)) (st2 (st2 M 111 1 (if (M 111 0) = 0 then nI A else (if nI A < (M 111 1) then nI A else (M 111 1)))) 111 0 (M 111 0 + (1 : Int32))) := by
  have h8 := p8_le hL
  have hc := cntL_le (Q := Q) (2 ^ L)
  constructor
  · rw [s2_eq, r.1, nI_1, cntL_add hq _ hA]
  · rw [s2_nk (by omega), s2_eq, fstN_add hA, r.1, r.2]
    cases hf : fstN Q (2 ^ L) with
    | none =>
      have h0 : cntL Q (2 ^ L) = 0 := (cntL_0 _).mpr ((fstN_none _).mp hf)
      rw [h0, if_pos (show nI 0 = 0 from rfl)]
      rfl
    | some f =>
      obtain ⟨f1, f2, f3⟩ := fstN_is _ hf
      have hp : 0 < cntL Q (2 ^ L) := by
        by_cases e : cntL Q (2 ^ L) = 0
        · exact absurd f2 ((cntL_0 _).mp e f f1)
        · omega
      rw [if_neg (nI_ne0 hp (by omega))]
      show (if nI A < nI f then nI A else nI f) = nI (if A < f then A else f)
      by_cases c : A < f
      · rw [if_pos (nI_lt c (by omega)), if_pos c]
      · rw [if_neg (nI_nlt (by omega) (by omega)), if_neg c]
