/-! ropes: the least by sets of bells, and the first choice that reaches it -/
def clr (s b : Nat) : Nat := s &&& (63 ^^^ 2 ^ b)
theorem clr_lt {s b c : Nat} (h : s < c) : clr s b < c := Nat.lt_of_le_of_lt Nat.and_le_left h
theorem clr_bit {s b d : Nat} (hs : s < 64) (hb : b < 6) : (clr s b).testBit d = true ↔ s.testBit d = true ∧ ¬ d = b := by
  unfold clr
  rw [Nat.testBit_and, Nat.testBit_xor, Nat.testBit_two_pow, show (63 : Nat) = 2 ^ 6 - 1 from rfl, Nat.testBit_two_pow_sub_one, Bool.and_eq_true]
  by_cases h6 : d < 6
  · rw [decide_eq_true h6]
    by_cases e : b = d
    · rw [decide_eq_true e]
      constructor
      · rintro ⟨-, q⟩; exact absurd q (by simp)
      · rintro ⟨-, q⟩; exact absurd e.symm q
    · rw [decide_eq_false e]
      constructor
      · rintro ⟨q, -⟩; exact ⟨q, fun z => e z.symm⟩
      · rintro ⟨q, -⟩; exact ⟨q, by simp⟩
  · have : s.testBit d = false := Nat.testBit_lt_two_pow (Nat.lt_of_lt_of_le hs (by
      have : 2 ^ 6 ≤ 2 ^ d := Nat.pow_le_pow_right (by omega) (by omega)
      omega))
    rw [this]
    constructor
    · rintro ⟨q, -⟩; exact absurd q (by simp)
    · rintro ⟨q, -⟩; exact absurd q (by simp)
def cntC (ns s b : Nat) : Bool := !(s.testBit b) || !(Nat.blt b ns) || (cntI (clr s b) ns == cntI s ns + 1)
theorem cnt_clr_d : ∀ ns, ns < 7 → ∀ s, s < 64 → ∀ b, b < 6 → cntC ns s b = true := by decide +kernel
theorem cnt_clr {ns s b : Nat} (hns : ns ≤ 6) (hs : s < 64) (hb : b < ns) (h : s.testBit b = true) : cntI (clr s b) ns = cntI s ns + 1 := by
  have := cnt_clr_d ns (by omega) s hs b (by omega)
  unfold cntC at this
  rw [h, show Nat.blt b ns = true by rw [Nat.blt_eq]; exact hb] at this
  simpa using this
theorem cnt_full : ∀ ns, ns < 7 → cntI (2 ^ ns - 1) ns = 0 := by decide +kernel
/-- the table of least sums, by sets of bells -/
def TBl (ns : Nat) (c : Nat → Nat → Nat) (T : Nat → Nat) : Prop := T 0 = 0 ∧ ∀ s, 0 < s → s < 2 ^ ns → (∀ b, b < ns → s.testBit b = true → T s ≤ c (cntI s ns) b + T (clr s b)) ∧ ∃ b, b < ns ∧ s.testBit b = true ∧ T s = c (cntI s ns) b + T (clr s b)
/-- the choice, suitor by suitor -/
def GRd (ns : Nat) (c : Nat → Nat → Nat) (T g sq : Nat → Nat) : Prop := sq 0 = 2 ^ ns - 1 ∧ ∀ r, r < ns → g r < ns ∧ (sq r).testBit (g r) = true ∧ sq (r + 1) = clr (sq r) (g r) ∧ (∀ b, b < ns → (sq r).testBit b = true → c r (g r) + T (clr (sq r) (g r)) ≤ c r b + T (clr (sq r) b)) ∧ ∀ b, b < g r → (sq r).testBit b = true → c r (g r) + T (clr (sq r) (g r)) < c r b + T (clr (sq r) b)
def rsd (ns : Nat) (p : Nat → Nat) : Nat → Nat
  | 0 => 2 ^ ns - 1
  | r + 1 => clr (rsd ns p r) (p r)
theorem p2_64 {ns : Nat} (h : ns ≤ 6) : 2 ^ ns ≤ 64 := pow_ns h
theorem rsd_lt {ns : Nat} {p : Nat → Nat} : ∀ r, rsd ns p r < 2 ^ ns
  | 0 => by
    have : 0 < 2 ^ ns := Nat.pow_pos (by omega)
    show 2 ^ ns - 1 < 2 ^ ns
    omega
  | r + 1 => clr_lt (rsd_lt r)
theorem rsd_bit {ns : Nat} {p : Nat → Nat} (hns : ns ≤ 6) (hp : prm ns p) {b : Nat} : ∀ r, r ≤ ns → ((rsd ns p r).testBit b = true ↔ b < ns ∧ ∀ q, q < r → ¬ b = p q)
  | 0, _ => by
    show (2 ^ ns - 1).testBit b = true ↔ _
    rw [Nat.testBit_two_pow_sub_one]
    constructor
    · intro h; exact ⟨of_decide_eq_true h, fun q hq => absurd hq (by omega)⟩
    · rintro ⟨h, -⟩; exact decide_eq_true h
  | r + 1, hr => by
    have ih := rsd_bit hns hp (b := b) r (by omega)
    have h64 : rsd ns p r < 64 := Nat.lt_of_lt_of_le (rsd_lt r) (p2_64 hns)
    show (clr (rsd ns p r) (p r)).testBit b = true ↔ _
    rw [clr_bit h64 (by have := hp.1 r (by omega); omega), ih]
    constructor
    · rintro ⟨⟨h1, h2⟩, h3⟩
      exact ⟨h1, fun q hq => by
        by_cases e : q = r
        · rw [e]; exact h3
        · exact h2 q (by omega)⟩
    · rintro ⟨h1, h2⟩
      exact ⟨⟨h1, fun q hq => h2 q (by omega)⟩, h2 r (by omega)⟩
theorem rsd_own {ns r : Nat} {p : Nat → Nat} (hns : ns ≤ 6) (hp : prm ns p) (hr : r < ns) : (rsd ns p r).testBit (p r) = true :=
  (rsd_bit hns hp r (by omega)).mpr ⟨hp.1 r hr, fun q hq e => by have := hp.2 r q hr (by omega) e; omega⟩
theorem rsd_cnt {ns : Nat} {p : Nat → Nat} (hns : ns ≤ 6) (hp : prm ns p) : ∀ r, r ≤ ns → cntI (rsd ns p r) ns = r
  | 0, _ => cnt_full ns (by omega)
  | r + 1, hr => by
    show cntI (clr (rsd ns p r) (p r)) ns = r + 1
    rw [cnt_clr hns (Nat.lt_of_lt_of_le (rsd_lt r) (p2_64 hns)) (hp.1 r (by omega)) (rsd_own hns hp (by omega)), rsd_cnt hns hp r (by omega)]
theorem rsd_end {ns : Nat} {p : Nat → Nat} (hns : ns ≤ 6) (hp : prm ns p) : rsd ns p ns = 0 := by
  apply Nat.eq_of_testBit_eq
  intro b
  rw [Nat.zero_testBit]
  by_cases h : (rsd ns p ns).testBit b = true
  · obtain ⟨h1, h2⟩ := (rsd_bit hns hp ns (Nat.le_refl _)).mp h
    obtain ⟨q, hq, e⟩ := surj ns p hp.1 hp.2 b h1
    exact absurd e.symm (h2 q hq)
  · simpa using h
theorem bit_pos {s b : Nat} (h : s.testBit b = true) : 0 < s := by
  by_cases e : s = 0
  · rw [e, Nat.zero_testBit] at h
    exact absurd h (by simp)
  · omega
def sumR (c : Nat → Nat → Nat) (p : Nat → Nat) : Nat → Nat
  | 0 => 0
  | r + 1 => sumR c p r + c r (p r)
/-- sums ahead, and what is left: they never go down -/
theorem sum_mono {ns : Nat} {c : Nat → Nat → Nat} {T p : Nat → Nat} (hns : ns ≤ 6) (hT : TBl ns c T) (hp : prm ns p) {r : Nat} (hr : r < ns) : sumR c p r + T (rsd ns p r) ≤ sumR c p (r + 1) + T (rsd ns p (r + 1)) := by
  have h1 := rsd_own hns hp hr
  have h2 := (hT.2 (rsd ns p r) (bit_pos h1) (rsd_lt r)).1 (p r) (hp.1 r hr) h1
  rw [rsd_cnt hns hp r (by omega)] at h2
  show sumR c p r + T (rsd ns p r) ≤ sumR c p r + c r (p r) + T (clr (rsd ns p r) (p r))
  omega
theorem sum_mono2 {ns : Nat} {c : Nat → Nat → Nat} {T p : Nat → Nat} (hns : ns ≤ 6) (hT : TBl ns c T) (hp : prm ns p) : ∀ (d r : Nat), r + d ≤ ns → sumR c p r + T (rsd ns p r) ≤ sumR c p (r + d) + T (rsd ns p (r + d))
  | 0, r, _ => Nat.le_refl _
  | d + 1, r, h => by
    have h1 := sum_mono2 hns hT hp d r (by omega)
    have h2 := sum_mono hns hT hp (show r + d < ns by omega)
    rw [show r + (d + 1) = r + d + 1 by omega]
    omega
theorem sum_ge {ns : Nat} {c : Nat → Nat → Nat} {T p : Nat → Nat} (hns : ns ≤ 6) (hT : TBl ns c T) (hp : prm ns p) : T (2 ^ ns - 1) ≤ sumR c p ns := by
  have := sum_mono2 hns hT hp ns 0 (by omega)
  rw [Nat.zero_add, rsd_end hns hp, hT.1] at this
  have e : sumR c p 0 + T (rsd ns p 0) = T (2 ^ ns - 1) := by show 0 + T (2 ^ ns - 1) = _; omega
  omega
/-! the choice is a permutation, and reaches the least -/
theorem gr_sq {ns : Nat} {c : Nat → Nat → Nat} {T g sq : Nat → Nat} (hg : GRd ns c T g sq) : ∀ r, r ≤ ns → sq r = rsd ns g r
  | 0, _ => hg.1
  | r + 1, h => by
    rw [(hg.2 r (by omega)).2.2.1, gr_sq hg r (by omega)]
    rfl
theorem gr_bits {ns : Nat} {c : Nat → Nat → Nat} {T g sq : Nat → Nat} (hns : ns ≤ 6) (hg : GRd ns c T g sq) {b : Nat} : ∀ r, r ≤ ns → (rsd ns g r).testBit b = true → ∀ q, q < r → ¬ b = g q
  | 0, _, _ => fun q hq => absurd hq (by omega)
  | r + 1, hr, h => by
    have h64 : rsd ns g r < 64 := Nat.lt_of_lt_of_le (rsd_lt r) (p2_64 hns)
    have h2 : (clr (rsd ns g r) (g r)).testBit b = true := h
    rw [clr_bit h64 (by have := (hg.2 r (by omega)).1; omega)] at h2
    intro q hq
    by_cases e : q = r
    · rw [e]; exact h2.2
    · exact gr_bits hns hg r (by omega) h2.1 q (by omega)
theorem gr_prm {ns : Nat} {c : Nat → Nat → Nat} {T g sq : Nat → Nat} (hns : ns ≤ 6) (hg : GRd ns c T g sq) : prm ns g := by
  refine ⟨fun r hr => (hg.2 r hr).1, fun r q hr hq e => ?_⟩
  have key : ∀ r q, r < ns → q < r → ¬ g r = g q := fun r q hr hq => by
    have := (hg.2 r hr).2.1
    rw [gr_sq hg r (by omega)] at this
    exact gr_bits hns hg r (by omega) this q hq
  by_cases c1 : r < q
  · exact absurd e.symm (key q r hq c1)
  · by_cases c2 : q < r
    · exact absurd e (key r q hr c2)
    · omega
theorem gr_tight {ns : Nat} {c : Nat → Nat → Nat} {T g sq : Nat → Nat} (hns : ns ≤ 6) (hT : TBl ns c T) (hg : GRd ns c T g sq) {r : Nat} (hr : r < ns) : T (rsd ns g r) = c r (g r) + T (clr (rsd ns g r) (g r)) := by
  have hp := gr_prm hns hg
  obtain ⟨g1, g2, g3, g4, g5⟩ := hg.2 r hr
  rw [gr_sq hg r (by omega)] at g2 g4 g5
  obtain ⟨h1, b, b1, b2, b3⟩ := hT.2 (rsd ns g r) (bit_pos g2) (rsd_lt r)
  rw [rsd_cnt hns hp r (by omega)] at h1 b3
  have a1 := h1 (g r) g1 g2
  have a2 := g4 b b1 b2
  omega
theorem gr_sum {ns : Nat} {c : Nat → Nat → Nat} {T g sq : Nat → Nat} (hns : ns ≤ 6) (hT : TBl ns c T) (hg : GRd ns c T g sq) : ∀ r, r ≤ ns → sumR c g r + T (rsd ns g r) = T (2 ^ ns - 1)
  | 0, _ => by show 0 + T (2 ^ ns - 1) = _; omega
  | r + 1, h => by
    have ih := gr_sum hns hT hg r (by omega)
    have t := gr_tight hns hT hg (show r < ns by omega)
    show sumR c g r + c r (g r) + T (clr (rsd ns g r) (g r)) = _
    omega
theorem gr_least {ns : Nat} {c : Nat → Nat → Nat} {T g sq : Nat → Nat} (hns : ns ≤ 6) (hT : TBl ns c T) (hg : GRd ns c T g sq) : sumR c g ns = T (2 ^ ns - 1) := by
  have := gr_sum hns hT hg ns (Nat.le_refl _)
  rw [rsd_end hns (gr_prm hns hg), hT.1] at this
  omega
theorem rsd_congr {ns : Nat} {p g : Nat → Nat} : ∀ r, (∀ q, q < r → p q = g q) → rsd ns p r = rsd ns g r
  | 0, _ => rfl
  | r + 1, h => by
    show clr (rsd ns p r) (p r) = clr (rsd ns g r) (g r)
    rw [rsd_congr r (fun q hq => h q (by omega)), h r (by omega)]
/-- whoever is as little as the choice comes behind it -/
theorem gr_first {ns : Nat} {c : Nat → Nat → Nat} {T g sq p : Nat → Nat} (hns : ns ≤ 6) (hT : TBl ns c T) (hg : GRd ns c T g sq) (hp : prm ns p) (hle : sumR c p ns ≤ T (2 ^ ns - 1)) {r : Nat} (hr : r < ns) (he : ∀ q, q < r → p q = g q) (hd : ¬ p r = g r) : g r < p r := by
  have e1 := sum_mono2 hns hT hp r 0 (by omega)
  have e2 := sum_mono hns hT hp hr
  have e3 := sum_mono2 hns hT hp (ns - (r + 1)) (r + 1) (by omega)
  rw [show r + 1 + (ns - (r + 1)) = ns by omega, rsd_end hns hp, hT.1] at e3
  rw [Nat.zero_add] at e1
  have e0 : sumR c p 0 + T (rsd ns p 0) = T (2 ^ ns - 1) := by show 0 + T (2 ^ ns - 1) = _; omega
  have ht : T (rsd ns p r) = c r (p r) + T (clr (rsd ns p r) (p r)) := by
    have : sumR c p (r + 1) + T (rsd ns p (r + 1)) = sumR c p r + c r (p r) + T (clr (rsd ns p r) (p r)) := rfl
    omega
  have hs : rsd ns p r = rsd ns g r := rsd_congr r he
  have hown := rsd_own hns hp hr
  rw [hs] at ht hown
  have tg := gr_tight hns hT hg hr
  obtain ⟨g1, g2, g3, g4, g5⟩ := hg.2 r hr
  rw [gr_sq hg r (by omega)] at g5
  by_cases q : p r < g r
  · have := g5 (p r) q hown
    omega
  · omega
/-! codes: figures in base six, the first suitor's foremost -/
def pd6 (ns x r : Nat) : Nat := x / 6 ^ (ns - 1 - r) % 6
def cod6 (g : Nat → Nat) : Nat → Nat
  | 0 => 0
  | m + 1 => 6 * cod6 g m + g m
theorem cod6_lt {g : Nat → Nat} : ∀ m, (∀ r, r < m → g r < 6) → cod6 g m < 6 ^ m
  | 0, _ => by show 0 < 1; omega
  | m + 1, h => by
    have ih := cod6_lt m (fun r hr => h r (by omega))
    have hm := h m (by omega)
    show 6 * cod6 g m + g m < 6 ^ (m + 1)
    rw [Nat.pow_succ]
    omega
theorem cod6_div {g : Nat → Nat} : ∀ (j m : Nat), (∀ r, r < m + j → g r < 6) → cod6 g (m + j) / 6 ^ j = cod6 g m
  | 0, m, _ => by rw [Nat.pow_zero, Nat.div_one, Nat.add_zero]
  | j + 1, m, h => by
    have hlt := h (m + j) (by omega)
    rw [Nat.pow_succ, Nat.mul_comm, ← Nat.div_div_eq_div_mul]
    rw [show cod6 g (m + (j + 1)) / 6 = cod6 g (m + j) by
      show (6 * cod6 g (m + j) + g (m + j)) / 6 = _
      omega]
    exact cod6_div j m (fun r hr => h r (by omega))
theorem pd6_cod {ns r : Nat} {g : Nat → Nat} (h : ∀ q, q < ns → g q < 6) (hr : r < ns) : pd6 ns (cod6 g ns) r = g r := by
  unfold pd6
  have := cod6_div (g := g) (ns - 1 - r) (r + 1) (fun q hq => h q (by omega))
  rw [show r + 1 + (ns - 1 - r) = ns by omega] at this
  rw [this]
  show (6 * cod6 g r + g r) % 6 = g r
  have := h r hr
  omega
theorem pd6_pre {ns x : Nat} {g : Nat → Nat} (hx : x < 6 ^ ns) : ∀ r, r ≤ ns → (∀ q, q < r → pd6 ns x q = g q) → x / 6 ^ (ns - r) = cod6 g r
  | 0, _, _ => by
    rw [Nat.sub_zero]
    exact Nat.div_eq_of_lt hx
  | r + 1, hr, h => by
    have ih := pd6_pre hx r (by omega) (fun q hq => h q (by omega))
    have hl := h r (by omega)
    unfold pd6 at hl
    rw [show ns - r = (ns - (r + 1)) + 1 by omega, Nat.pow_succ, ← Nat.div_div_eq_div_mul] at ih
    rw [show ns - 1 - r = ns - (r + 1) by omega] at hl
    show x / 6 ^ (ns - (r + 1)) = 6 * cod6 g r + g r
    omega
theorem pd6_eq {ns x : Nat} {g : Nat → Nat} (hx : x < 6 ^ ns) (h : ∀ q, q < ns → pd6 ns x q = g q) : x = cod6 g ns := by
  have := pd6_pre hx ns (Nat.le_refl _) h
  rw [Nat.sub_self, Nat.pow_zero, Nat.div_one] at this
  exact this
theorem pd6_less {ns x r : Nat} {g : Nat → Nat} (hx : x < 6 ^ ns) (hg : ∀ q, q < ns → g q < 6) (hr : r < ns) (he : ∀ q, q < r → pd6 ns x q = g q) (hl : g r < pd6 ns x r) : cod6 g ns < x := by
  have h1 := pd6_pre hx r (by omega) he
  have hG := cod6_div (g := g) (ns - (r + 1)) (r + 1) (fun q hq => hg q (by omega))
  rw [show r + 1 + (ns - (r + 1)) = ns by omega] at hG
  unfold pd6 at hl
  rw [show ns - r = (ns - (r + 1)) + 1 by omega, Nat.pow_succ, ← Nat.div_div_eq_div_mul] at h1
  rw [show ns - 1 - r = ns - (r + 1) by omega] at hl
  have h2 : cod6 g ns / 6 ^ (ns - (r + 1)) < x / 6 ^ (ns - (r + 1)) := by
    rw [hG]
    show 6 * cod6 g r + g r < _
    omega
  by_cases q : cod6 g ns < x
  · exact q
  · have := Nat.div_le_div_right (c := 6 ^ (ns - (r + 1))) (show x ≤ cod6 g ns by omega)
    omega
/-- ahead of the choice nobody is as little -/
theorem gr_code {ns x : Nat} {c : Nat → Nat → Nat} {T g sq : Nat → Nat} (hns : ns ≤ 6) (hT : TBl ns c T) (hg : GRd ns c T g sq) (hx : x < 6 ^ ns) (hp : prm ns (pd6 ns x)) (hlt : x < cod6 g ns) : T (2 ^ ns - 1) < sumR c (pd6 ns x) ns := by
  apply Classical.byContradiction
  intro hno
  have hle : sumR c (pd6 ns x) ns ≤ T (2 ^ ns - 1) := by omega
  have hg6 : ∀ q, q < ns → g q < 6 := fun q hq => by have := (hg.2 q hq).1; omega
  rcases firstW (fun r => pd6 ns x r = g r) (fun r => Classical.em _) ns with hall | ⟨r, z1, z2, z3⟩
  · have := pd6_eq hx hall
    omega
  · have := pd6_less hx hg6 z1 z3 (gr_first hns hT hg hp hle z1 z3 z2)
    omega
