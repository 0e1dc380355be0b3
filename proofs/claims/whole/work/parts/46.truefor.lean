/-! at most 720 rows -/
def gtI (x a : Nat) : Nat := if a < x then 1 else 0
def rk6 (a b c d e : Nat) : Nat := (((a * 5 + (b - gtI b a)) * 4 + (c - gtI c a - gtI c b)) * 3 + (d - gtI d a - gtI d b - gtI d c)) * 2 + (e - gtI e a - gtI e b - gtI e c - gtI e d)
def rk_b1_b (a b : Nat) : Bool := (b == a) || Nat.blt (b - gtI b a) (5)
theorem rk_b1_d : ∀ a, a < 6 → ∀ b, b < 6 → rk_b1_b a b = true := by decide +kernel
theorem rk_b1 : ∀ a, a < 6 → ∀ b, b < 6 → ¬ b = a → b - gtI b a < 5 := fun a ha b hb q0 => by
  have := rk_b1_d a ha b hb
  simp only [rk_b1_b, Bool.or_eq_true, beq_iff_eq, Bool.not_eq_true', beq_eq_false_iff_ne, ne_eq, Nat.blt_eq] at this
  omega
def rk_b2_b (a b c : Nat) : Bool := (b == a) || (c == a) || (c == b) || Nat.blt (c - gtI c a - gtI c b) (4)
theorem rk_b2_d : ∀ a, a < 6 → ∀ b, b < 6 → ∀ c, c < 6 → rk_b2_b a b c = true := by decide +kernel
theorem rk_b2 : ∀ a, a < 6 → ∀ b, b < 6 → ∀ c, c < 6 → ¬ b = a → ¬ c = a → ¬ c = b → c - gtI c a - gtI c b < 4 := fun a ha b hb c hc q0 q1 q2 => by
  have := rk_b2_d a ha b hb c hc
  simp only [rk_b2_b, Bool.or_eq_true, beq_iff_eq, Bool.not_eq_true', beq_eq_false_iff_ne, ne_eq, Nat.blt_eq] at this
  omega
def rk_b3_b (a b c d : Nat) : Bool := (b == a) || (c == a) || (c == b) || (d == a) || (d == b) || (d == c) || Nat.blt (d - gtI d a - gtI d b - gtI d c) (3)
theorem rk_b3_d : ∀ a, a < 6 → ∀ b, b < 6 → ∀ c, c < 6 → ∀ d, d < 6 → rk_b3_b a b c d = true := by decide +kernel
theorem rk_b3 : ∀ a, a < 6 → ∀ b, b < 6 → ∀ c, c < 6 → ∀ d, d < 6 → ¬ b = a → ¬ c = a → ¬ c = b → ¬ d = a → ¬ d = b → ¬ d = c → d - gtI d a - gtI d b - gtI d c < 3 := fun a ha b hb c hc d hd q0 q1 q2 q3 q4 q5 => by
  have := rk_b3_d a ha b hb c hc d hd
  simp only [rk_b3_b, Bool.or_eq_true, beq_iff_eq, Bool.not_eq_true', beq_eq_false_iff_ne, ne_eq, Nat.blt_eq] at this
  omega
def rk_b4_b (a b c d e : Nat) : Bool := (b == a) || (c == a) || (c == b) || (d == a) || (d == b) || (d == c) || (e == a) || (e == b) || (e == c) || (e == d) || Nat.blt (e - gtI e a - gtI e b - gtI e c - gtI e d) (2)
theorem rk_b4_d : ∀ a, a < 6 → ∀ b, b < 6 → ∀ c, c < 6 → ∀ d, d < 6 → ∀ e, e < 6 → rk_b4_b a b c d e = true := by decide +kernel
theorem rk_b4 : ∀ a, a < 6 → ∀ b, b < 6 → ∀ c, c < 6 → ∀ d, d < 6 → ∀ e, e < 6 → ¬ b = a → ¬ c = a → ¬ c = b → ¬ d = a → ¬ d = b → ¬ d = c → ¬ e = a → ¬ e = b → ¬ e = c → ¬ e = d → e - gtI e a - gtI e b - gtI e c - gtI e d < 2 := fun a ha b hb c hc d hd e he q0 q1 q2 q3 q4 q5 q6 q7 q8 q9 => by
  have := rk_b4_d a ha b hb c hc d hd e he
  simp only [rk_b4_b, Bool.or_eq_true, beq_iff_eq, Bool.not_eq_true', beq_eq_false_iff_ne, ne_eq, Nat.blt_eq] at this
  omega
theorem rk_b (a : Nat) (ha : a < 6) (b : Nat) (hb : b < 6) (h1 : ¬ b = a) : b - gtI b a < 5 ∧ ∀ c, c < 6 → ¬ c = a → ¬ c = b → c - gtI c a - gtI c b < 4 ∧ ∀ d, d < 6 → ¬ d = a → ¬ d = b → ¬ d = c → d - gtI d a - gtI d b - gtI d c < 3 ∧ ∀ e, e < 6 → ¬ e = a → ¬ e = b → ¬ e = c → ¬ e = d → e - gtI e a - gtI e b - gtI e c - gtI e d < 2 :=
  ⟨rk_b1 a ha b hb h1, fun c hc c1 c2 => ⟨rk_b2 a ha b hb c hc h1 c1 c2, fun d hd d1 d2 d3 => ⟨rk_b3 a ha b hb c hc d hd h1 c1 c2 d1 d2 d3, fun e he e1 e2 e3 e4 => rk_b4 a ha b hb c hc d hd e he h1 c1 c2 d1 d2 d3 e1 e2 e3 e4⟩⟩⟩
def g1_inj_b (a x y : Nat) : Bool := (x == a) || (y == a) || !((x - gtI x a) == (y - gtI y a)) || (x == y)
theorem g1_inj_d : ∀ a, a < 6 → ∀ x, x < 6 → ∀ y, y < 6 → g1_inj_b a x y = true := by decide +kernel
theorem g1_inj : ∀ a, a < 6 → ∀ x, x < 6 → ∀ y, y < 6 → ¬ x = a → ¬ y = a → x - gtI x a = y - gtI y a → x = y := fun a ha x hx y hy q0 q1 q2 => by
  have := g1_inj_d a ha x hx y hy
  simp only [g1_inj_b, Bool.or_eq_true, beq_iff_eq, Bool.not_eq_true', beq_eq_false_iff_ne, ne_eq, Nat.blt_eq] at this
  omega
def g2_inj_b (a b x y : Nat) : Bool := (b == a) || (x == a) || (x == b) || (y == a) || (y == b) || !((x - gtI x a - gtI x b) == (y - gtI y a - gtI y b)) || (x == y)
theorem g2_inj_d : ∀ a, a < 6 → ∀ b, b < 6 → ∀ x, x < 6 → ∀ y, y < 6 → g2_inj_b a b x y = true := by decide +kernel
theorem g2_inj : ∀ a, a < 6 → ∀ b, b < 6 → ∀ x, x < 6 → ∀ y, y < 6 → ¬ b = a → ¬ x = a → ¬ x = b → ¬ y = a → ¬ y = b → x - gtI x a - gtI x b = y - gtI y a - gtI y b → x = y := fun a ha b hb x hx y hy q0 q1 q2 q3 q4 q5 => by
  have := g2_inj_d a ha b hb x hx y hy
  simp only [g2_inj_b, Bool.or_eq_true, beq_iff_eq, Bool.not_eq_true', beq_eq_false_iff_ne, ne_eq, Nat.blt_eq] at this
  omega
def g3_inj_b (a b c x y : Nat) : Bool := (b == a) || (c == a) || (c == b) || (x == a) || (x == b) || (x == c) || (y == a) || (y == b) || (y == c) || !((x - gtI x a - gtI x b - gtI x c) == (y - gtI y a - gtI y b - gtI y c)) || (x == y)
theorem g3_inj_d : ∀ a, a < 6 → ∀ b, b < 6 → ∀ c, c < 6 → ∀ x, x < 6 → ∀ y, y < 6 → g3_inj_b a b c x y = true := by decide +kernel
theorem g3_inj : ∀ a, a < 6 → ∀ b, b < 6 → ∀ c, c < 6 → ∀ x, x < 6 → ∀ y, y < 6 → ¬ b = a → ¬ c = a → ¬ c = b → ¬ x = a → ¬ x = b → ¬ x = c → ¬ y = a → ¬ y = b → ¬ y = c → x - gtI x a - gtI x b - gtI x c = y - gtI y a - gtI y b - gtI y c → x = y := fun a ha b hb c hc x hx y hy q0 q1 q2 q3 q4 q5 q6 q7 q8 q9 => by
  have := g3_inj_d a ha b hb c hc x hx y hy
  simp only [g3_inj_b, Bool.or_eq_true, beq_iff_eq, Bool.not_eq_true', beq_eq_false_iff_ne, ne_eq, Nat.blt_eq] at this
  omega
def g4_inj_b (a b c d x y : Nat) : Bool := (b == a) || (c == a) || (c == b) || (d == a) || (d == b) || (d == c) || (x == a) || (x == b) || (x == c) || (x == d) || (y == a) || (y == b) || (y == c) || (y == d) || !((x - gtI x a - gtI x b - gtI x c - gtI x d) == (y - gtI y a - gtI y b - gtI y c - gtI y d)) || (x == y)
theorem g4_inj_d : ∀ a, a < 6 → ∀ b, b < 6 → ∀ c, c < 6 → ∀ d, d < 6 → ∀ x, x < 6 → ∀ y, y < 6 → g4_inj_b a b c d x y = true := by decide +kernel
theorem g4_inj : ∀ a, a < 6 → ∀ b, b < 6 → ∀ c, c < 6 → ∀ d, d < 6 → ∀ x, x < 6 → ∀ y, y < 6 → ¬ b = a → ¬ c = a → ¬ c = b → ¬ d = a → ¬ d = b → ¬ d = c → ¬ x = a → ¬ x = b → ¬ x = c → ¬ x = d → ¬ y = a → ¬ y = b → ¬ y = c → ¬ y = d → x - gtI x a - gtI x b - gtI x c - gtI x d = y - gtI y a - gtI y b - gtI y c - gtI y d → x = y := fun a ha b hb c hc d hd x hx y hy q0 q1 q2 q3 q4 q5 q6 q7 q8 q9 q10 q11 q12 q13 q14 => by
  have := g4_inj_d a ha b hb c hc d hd x hx y hy
  simp only [g4_inj_b, Bool.or_eq_true, beq_iff_eq, Bool.not_eq_true', beq_eq_false_iff_ne, ne_eq, Nat.blt_eq] at this
  omega
theorem rad_inj {a b c d e a' b' c' d' e' : Nat} (hb : b < 5) (hc : c < 4) (hd : d < 3) (he : e < 2) (hb' : b' < 5) (hc' : c' < 4) (hd' : d' < 3) (he' : e' < 2) (h : (((a * 5 + b) * 4 + c) * 3 + d) * 2 + e = (((a' * 5 + b') * 4 + c') * 3 + d') * 2 + e') : a = a' ∧ b = b' ∧ c = c' ∧ d = d' ∧ e = e' := by omega
theorem last6 {w v : Nat → Nat} (hw : prm 6 w) (hv : prm 6 v) (h : ∀ p, p < 5 → w p = v p) : w 5 = v 5 := by
  obtain ⟨p, hp, e⟩ := surj 6 w hw.1 hw.2 (v 5) (hv.1 5 (by omega))
  by_cases q : p < 5
  · have := hv.2 p 5 (by omega) (by omega) (by rw [← h p q, e])
    omega
  · rw [← e, show p = 5 by omega]
def rkW (w : Nat → Nat) : Nat := rk6 (w 0) (w 1) (w 2) (w 3) (w 4)
theorem rkW_lt {w : Nat → Nat} (h : prm 6 w) : rkW w < 720 := by
  have ne : ∀ p q, p < 6 → q < 6 → ¬ p = q → ¬ w p = w q := fun p q hp hq e z => e (h.2 p q hp hq z)
  have l : ∀ p, p < 6 → w p < 6 := h.1
  obtain ⟨b1, b2⟩ := rk_b (w 0) (l 0 (by omega)) (w 1) (l 1 (by omega)) (ne 1 0 (by omega) (by omega) (by omega))
  obtain ⟨b3, b4⟩ := b2 (w 2) (l 2 (by omega)) (ne 2 0 (by omega) (by omega) (by omega)) (ne 2 1 (by omega) (by omega) (by omega))
  obtain ⟨b5, b6⟩ := b4 (w 3) (l 3 (by omega)) (ne 3 0 (by omega) (by omega) (by omega)) (ne 3 1 (by omega) (by omega) (by omega)) (ne 3 2 (by omega) (by omega) (by omega))
  have b7 := b6 (w 4) (l 4 (by omega)) (ne 4 0 (by omega) (by omega) (by omega)) (ne 4 1 (by omega) (by omega) (by omega)) (ne 4 2 (by omega) (by omega) (by omega)) (ne 4 3 (by omega) (by omega) (by omega))
  have l0 := l 0 (by omega)
  unfold rkW rk6
  omega
theorem rkW_inj {w v : Nat → Nat} (h : prm 6 w) (k : prm 6 v) (e : rkW w = rkW v) : ∀ p, p < 6 → w p = v p := by
  have ne : ∀ p q, p < 6 → q < 6 → ¬ p = q → ¬ w p = w q := fun p q hp hq e z => e (h.2 p q hp hq z)
  have l : ∀ p, p < 6 → w p < 6 := h.1
  have nf : ∀ p q, p < 6 → q < 6 → ¬ p = q → ¬ v p = v q := fun p q hp hq e z => e (k.2 p q hp hq z)
  have m : ∀ p, p < 6 → v p < 6 := k.1
  obtain ⟨b1, b2⟩ := rk_b (w 0) (l 0 (by omega)) (w 1) (l 1 (by omega)) (ne 1 0 (by omega) (by omega) (by omega))
  obtain ⟨b3, b4⟩ := b2 (w 2) (l 2 (by omega)) (ne 2 0 (by omega) (by omega) (by omega)) (ne 2 1 (by omega) (by omega) (by omega))
  obtain ⟨b5, b6⟩ := b4 (w 3) (l 3 (by omega)) (ne 3 0 (by omega) (by omega) (by omega)) (ne 3 1 (by omega) (by omega) (by omega)) (ne 3 2 (by omega) (by omega) (by omega))
  have b7 := b6 (w 4) (l 4 (by omega)) (ne 4 0 (by omega) (by omega) (by omega)) (ne 4 1 (by omega) (by omega) (by omega)) (ne 4 2 (by omega) (by omega) (by omega)) (ne 4 3 (by omega) (by omega) (by omega))
  obtain ⟨d1, d2⟩ := rk_b (v 0) (m 0 (by omega)) (v 1) (m 1 (by omega)) (nf 1 0 (by omega) (by omega) (by omega))
  obtain ⟨d3, d4⟩ := d2 (v 2) (m 2 (by omega)) (nf 2 0 (by omega) (by omega) (by omega)) (nf 2 1 (by omega) (by omega) (by omega))
  obtain ⟨d5, d6⟩ := d4 (v 3) (m 3 (by omega)) (nf 3 0 (by omega) (by omega) (by omega)) (nf 3 1 (by omega) (by omega) (by omega)) (nf 3 2 (by omega) (by omega) (by omega))
  have d7 := d6 (v 4) (m 4 (by omega)) (nf 4 0 (by omega) (by omega) (by omega)) (nf 4 1 (by omega) (by omega) (by omega)) (nf 4 2 (by omega) (by omega) (by omega)) (nf 4 3 (by omega) (by omega) (by omega))
  obtain ⟨e0, e1, e2, e3, e4⟩ := rad_inj b1 b3 b5 b7 d1 d3 d5 d7 e
  have q1 : w 1 = v 1 := by
    rw [← e0] at e1
    exact g1_inj (w 0) (l 0 (by omega)) (w 1) (l 1 (by omega)) (v 1) (m 1 (by omega)) (ne 1 0 (by omega) (by omega) (by omega)) (by rw [e0]; exact nf 1 0 (by omega) (by omega) (by omega)) e1
  have q2 : w 2 = v 2 := by
    rw [← e0, ← q1] at e2
    exact g2_inj (w 0) (l 0 (by omega)) (w 1) (l 1 (by omega)) (w 2) (l 2 (by omega)) (v 2) (m 2 (by omega)) (ne 1 0 (by omega) (by omega) (by omega)) (ne 2 0 (by omega) (by omega) (by omega)) (ne 2 1 (by omega) (by omega) (by omega)) (by rw [e0]; exact nf 2 0 (by omega) (by omega) (by omega)) (by rw [q1]; exact nf 2 1 (by omega) (by omega) (by omega)) e2
  have q3 : w 3 = v 3 := by
    rw [← e0, ← q1, ← q2] at e3
    exact g3_inj (w 0) (l 0 (by omega)) (w 1) (l 1 (by omega)) (w 2) (l 2 (by omega)) (w 3) (l 3 (by omega)) (v 3) (m 3 (by omega)) (ne 1 0 (by omega) (by omega) (by omega)) (ne 2 0 (by omega) (by omega) (by omega)) (ne 2 1 (by omega) (by omega) (by omega)) (ne 3 0 (by omega) (by omega) (by omega)) (ne 3 1 (by omega) (by omega) (by omega)) (ne 3 2 (by omega) (by omega) (by omega)) (by rw [e0]; exact nf 3 0 (by omega) (by omega) (by omega)) (by rw [q1]; exact nf 3 1 (by omega) (by omega) (by omega)) (by rw [q2]; exact nf 3 2 (by omega) (by omega) (by omega)) e3
  have q4 : w 4 = v 4 := by
    rw [← e0, ← q1, ← q2, ← q3] at e4
    exact g4_inj (w 0) (l 0 (by omega)) (w 1) (l 1 (by omega)) (w 2) (l 2 (by omega)) (w 3) (l 3 (by omega)) (w 4) (l 4 (by omega)) (v 4) (m 4 (by omega)) (ne 1 0 (by omega) (by omega) (by omega)) (ne 2 0 (by omega) (by omega) (by omega)) (ne 2 1 (by omega) (by omega) (by omega)) (ne 3 0 (by omega) (by omega) (by omega)) (ne 3 1 (by omega) (by omega) (by omega)) (ne 3 2 (by omega) (by omega) (by omega)) (ne 4 0 (by omega) (by omega) (by omega)) (ne 4 1 (by omega) (by omega) (by omega)) (ne 4 2 (by omega) (by omega) (by omega)) (ne 4 3 (by omega) (by omega) (by omega)) (by rw [e0]; exact nf 4 0 (by omega) (by omega) (by omega)) (by rw [q1]; exact nf 4 1 (by omega) (by omega) (by omega)) (by rw [q2]; exact nf 4 2 (by omega) (by omega) (by omega)) (by rw [q3]; exact nf 4 3 (by omega) (by omega) (by omega)) e4
  have h5 : ∀ p, p < 5 → w p = v p := fun p hp => by
    rcases (show p = 0 ∨ p = 1 ∨ p = 2 ∨ p = 3 ∨ p = 4 by omega) with rfl | rfl | rfl | rfl | rfl
    · exact e0
    · exact q1
    · exact q2
    · exact q3
    · exact q4
  intro p hp
  by_cases q : p < 5
  · exact h5 p q
  · rw [show p = 5 by omega]; exact last6 h k h5
def ex6 (n : Nat) (w : Nat → Nat) : Nat → Nat := fun p => if p < n then w p else p
theorem prm_ex6 {n : Nat} {w : Nat → Nat} (hn : n ≤ 6) (h : prm n w) : prm 6 (ex6 n w) := by
  have s : ∀ p, p < n → ex6 n w p = w p := fun p hp => by unfold ex6; rw [if_pos hp]
  have b : ∀ p, ¬ p < n → ex6 n w p = p := fun p hp => by unfold ex6; rw [if_neg hp]
  refine ⟨fun p hp => ?_, fun p q hp hq e => ?_⟩
  · by_cases c : p < n
    · rw [s p c]; have := h.1 p c; omega
    · rw [b p c]; exact hp
  · by_cases c : p < n
    · by_cases d : q < n
      · rw [s p c, s q d] at e; exact h.2 p q c d e
      · rw [s p c, b q d] at e; have := h.1 p c; omega
    · by_cases d : q < n
      · rw [b p c, s q d] at e; have := h.1 q d; omega
      · rw [b p c, b q d] at e; exact e
/-- of 721 rows two are alike -/
theorem pig720 {n : Nat} {u : Nat → Nat → Nat} (hn : n ≤ 6) (h : ∀ i, i < 721 → prm n (u i)) : ∃ i j, i < j ∧ j < 721 ∧ figs n (u i) = figs n (u j) := by
  apply Classical.byContradiction
  intro hno
  have hinj : ∀ i j, i < 721 → j < 721 → rkW (ex6 n (u i)) = rkW (ex6 n (u j)) → i = j := fun i j hi hj e => by
    have hw := rkW_inj (prm_ex6 hn (h i hi)) (prm_ex6 hn (h j hj)) e
    have hf : figs n (u i) = figs n (u j) := figs_congr n _ _ (fun p hp => by
      have := hw p (by omega)
      unfold ex6 at this
      rw [if_pos hp, if_pos hp] at this
      exact this)
    by_cases c : i < j
    · exact absurd ⟨i, j, c, hj, hf⟩ hno
    · by_cases d : j < i
      · exact absurd ⟨j, i, d, hi, hf.symm⟩ hno
      · omega
  obtain ⟨p, hp, e⟩ := surj 721 (fun i => rkW (ex6 n (u i))) (fun i hi => by have := rkW_lt (prm_ex6 hn (h i hi)); show rkW (ex6 n (u i)) < 721; omega) hinj 720 (by omega)
  have := rkW_lt (prm_ex6 hn (h p hp))
  have e' : rkW (ex6 n (u p)) = 720 := e
  omega
theorem code_iff {n : Nat} {w v : Nat → Nat} (hn : n ≤ 6) (h : prm n w) (k : prm n v) : enc n w % 32768 = enc n v % 32768 ↔ figs n w = figs n v := by
  have hw8 := prm8 hn h
  have hv8 := prm8 hn k
  rw [← rowsEq hw8 hv8]
  by_cases h6 : n = 6
  · subst h6
    constructor
    · intro e
      have a1 := enc_lt 5 w (fun p hp => hw8 p (by omega))
      have a2 := enc_lt 5 v (fun p hp => hv8 p (by omega))
      rw [enc_snoc 5 w, enc_snoc 5 v] at e
      have e5 : enc 5 w = enc 5 v := by omega
      have h5 := enc_inj (n := 5) (fun p hp => hw8 p (by omega)) (fun p hp => hv8 p (by omega)) e5
      have := last6 h k h5
      rw [enc_snoc 5 w, enc_snoc 5 v, e5, this]
    · intro e; rw [e]
  · have a1 := enc_lt n w hw8
    have a2 := enc_lt n v hv8
    have a3 : 8 ^ n ≤ 8 ^ 5 := Nat.pow_le_pow_right (by omega) (by omega)
    rw [Nat.mod_eq_of_lt (by omega), Nat.mod_eq_of_lt (by omega)]
