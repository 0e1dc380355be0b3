/-! rows packed in three bits a place, and told by figures -/
theorem Bd_Lp {σ τ β : Type} {f : σ → Option (σ ⊕ τ)} {s0 : σ} {k : τ → Option β} (st : Nat → σ) (e : Nat) (t : τ) (h0 : s0 = st 0) (hs : ∀ i, i < e → f (st i) = some (.inl (st (i + 1)))) (he : f (st e) = some (.inr t)) (hb : e < 100000) : Bd (Lp f 100000 s0) k = k t := by
  rw [Lp_from st e t h0 hs he hb]; rfl
theorem BdS_LpL {σ ρ α : Type} {f : σ → Option (σ ⊕ (ρ ⊕ α))} {s0 : σ} {k : α → Option ρ} (st : Nat → σ) (e : Nat) (r : ρ) (h0 : s0 = st 0) (hs : ∀ i, i < e → f (st i) = some (.inl (st (i + 1)))) (he : f (st e) = some (.inr (.inl r))) (hb : e < 100000) : BdS (Lp f 100000 s0) k = some r := by
  rw [Lp_from st e _ h0 hs he hb]; rfl
theorem BdS_LpR {σ ρ α : Type} {f : σ → Option (σ ⊕ (ρ ⊕ α))} {s0 : σ} {k : α → Option ρ} (st : Nat → σ) (e : Nat) (a : α) (h0 : s0 = st 0) (hs : ∀ i, i < e → f (st i) = some (.inl (st (i + 1)))) (he : f (st e) = some (.inr (.inr a))) (hb : e < 100000) : BdS (Lp f 100000 s0) k = k a := by
  rw [Lp_from st e _ h0 hs he hb]; rfl
def enc : Nat → (Nat → Nat) → Nat
  | 0, _ => 0
  | n + 1, w => w 0 + 8 * enc n (fun p => w (p + 1))
def figs : Nat → (Nat → Nat) → Nat
  | 0, _ => 0
  | n + 1, w => figs n w * 10 + w n + 1
theorem enc_lt : ∀ (n : Nat) (w : Nat → Nat), (∀ p, p < n → w p < 8) → enc n w < 8 ^ n
  | 0, _, _ => by simp [enc]
  | n + 1, w, h => by
    have h0 := h 0 (by omega)
    have ih := enc_lt n (fun p => w (p + 1)) (fun p hp => h (p + 1) (by omega))
    simp only [enc, Nat.pow_succ]
    omega
theorem enc_div : ∀ (n : Nat) (w : Nat → Nat) (p : Nat), (∀ q, q < n → w q < 8) → p < n → enc n w / 8 ^ p % 8 = w p
  | 0, _, _, _, h => by omega
  | n + 1, w, 0, h, _ => by
    have h0 := h 0 (by omega)
    simp only [enc, Nat.pow_zero, Nat.div_one]
    omega
  | n + 1, w, p + 1, h, hp => by
    have h0 := h 0 (by omega)
    have ih := enc_div n (fun p => w (p + 1)) p (fun q hq => h (q + 1) (by omega)) (by omega)
    have e : (w 0 + 8 * enc n (fun p => w (p + 1))) / 8 = enc n (fun p => w (p + 1)) := by omega
    rw [enc, Nat.pow_succ, Nat.mul_comm (8 ^ p) 8, ← Nat.div_div_eq_div_mul, e]
    exact ih
theorem enc_congr : ∀ (n : Nat) (w v : Nat → Nat), (∀ p, p < n → w p = v p) → enc n w = enc n v
  | 0, _, _, _ => rfl
  | n + 1, w, v, h => by
    rw [enc, enc, h 0 (by omega), enc_congr n _ _ (fun p hp => h (p + 1) (by omega))]
theorem enc_inj {n : Nat} {w v : Nat → Nat} (hw : ∀ p, p < n → w p < 8) (hv : ∀ p, p < n → v p < 8) (h : enc n w = enc n v) : ∀ p, p < n → w p = v p := fun p hp => by
  rw [← enc_div n w p hw hp, ← enc_div n v p hv hp, h]
theorem pow8_le {n : Nat} (hn : n ≤ 6) : 8 ^ n ≤ 262144 := by
  have : 8 ^ n ≤ 8 ^ 6 := Nat.pow_le_pow_right (by omega) hn
  omega
theorem enc_b {n : Nat} {w : Nat → Nat} (hn : n ≤ 6) (hw : ∀ p, p < n → w p < 8) : enc n w < 262144 := Nat.lt_of_lt_of_le (enc_lt n w hw) (pow8_le hn)
theorem bellIn_nI {a p : Nat} (ha : a < 2 ^ 31) (hp : p < 10) : f_X5_bellIn (nI a) (nI p) = nI (a / 8 ^ p % 8) := by
  unfold f_X5_bellIn
  rw [show (3 : Int32) * nI p = nI (3 * p) from pk_mul 3 p, sr_nI (by omega) ha, show (7 : Int32) = nI 7 from rfl, nI_and, show (7 : Nat) = 2 ^ 3 - 1 from rfl, Nat.and_two_pow_sub_one_eq_mod, Nat.pow_mul]
theorem bellIn_enc {n p : Nat} {w : Nat → Nat} (hn : n ≤ 6) (hw : ∀ q, q < n → w q < 8) (hp : p < n) : f_X5_bellIn (nI (enc n w)) (nI p) = nI (w p) := by
  have := enc_b hn hw
  rw [bellIn_nI (by omega) (by omega), enc_div n w p hw hp]
theorem figs_lt : ∀ (n : Nat) (w : Nat → Nat), (∀ p, p < n → w p < 9) → figs n w < 10 ^ n
  | 0, _, _ => by simp [figs]
  | n + 1, w, h => by
    have h0 := h n (by omega)
    have ih := figs_lt n w (fun p hp => h p (by omega))
    simp only [figs, Nat.pow_succ]
    omega
theorem figs_congr : ∀ (n : Nat) (w v : Nat → Nat), (∀ p, p < n → w p = v p) → figs n w = figs n v
  | 0, _, _, _ => rfl
  | n + 1, w, v, h => by
    rw [figs, figs, h n (by omega), figs_congr n _ _ (fun p hp => h p (by omega))]
theorem figs_inj : ∀ {n : Nat} {w v : Nat → Nat}, (∀ p, p < n → w p < 9) → (∀ p, p < n → v p < 9) → figs n w = figs n v → ∀ p, p < n → w p = v p
  | 0, _, _, _, _, _, p, hp => by omega
  | n + 1, w, v, hw, hv, h, p, hp => by
    have h1 := hw n (by omega)
    have h2 := hv n (by omega)
    simp only [figs] at h
    by_cases hpn : p = n
    · subst hpn; omega
    · exact figs_inj (n := n) (fun p hp => hw p (by omega)) (fun p hp => hv p (by omega)) (by omega) p (by omega)
theorem pow10_le {n : Nat} (hn : n ≤ 6) : 10 ^ n ≤ 1000000 := by
  have : 10 ^ n ≤ 10 ^ 6 := Nat.pow_le_pow_right (by omega) hn
  omega
theorem figs_b {n : Nat} {w : Nat → Nat} (hn : n ≤ 6) (hw : ∀ p, p < n → w p < 9) : figs n w < 1000000 := Nat.lt_of_lt_of_le (figs_lt n w hw) (pow10_le hn)
theorem fig_step (a b : Nat) : nI a * (10 : Int32) + nI b + 1 = nI (a * 10 + b + 1) := by
  rw [show (10 : Int32) = nI 10 from rfl, pk_mul, nI_add, nI_1]
theorem fig_step2 (a b : Nat) : (10 : Int32) * nI a + nI b + 1 = nI (a * 10 + b + 1) := by
  rw [show (10 : Int32) = nI 10 from rfl, pk_mul, nI_add, nI_1, Nat.mul_comm]
theorem figures_enc {n : Nat} {w : Nat → Nat} (hn : n ≤ 6) (hw : ∀ q, q < n → w q < 8) : f_X5_figures (nI (enc n w)) (nI n) = some (nI (figs n w)) := by
  unfold f_X5_figures
  refine Bd_Lp (fun i => (nI (figs i w), nI i)) n (nI (figs n w)) rfl ?_ ?_ (by omega)
  · intro i hi
    unfold b_X5_figures_4
    simp only [Lt_eq]
    rw [if_neg (nI_ge hi (by omega)), bellIn_enc hn hw hi, fig_step, nI_1]
    rfl
  · unfold b_X5_figures_4
    simp only
    rw [if_pos (nI_le (Nat.le_refl n) (by omega))]
theorem rounds_spec : ∀ n, n < 7 → f_X5_rounds (nI n) = some (nI (enc n (fun p => p))) := by decide +kernel
theorem placeOf_enc {n p b : Nat} {w : Nat → Nat} (hn : n ≤ 6) (hw : ∀ q, q < n → w q < 8) (hp : p < n) (hb : b < 8) (h1 : w p = b) (h2 : ∀ q, q < p → w q ≠ b) : f_X5_placeOf (nI (enc n w)) (nI b) (nI n) = some (nI p) := by
  unfold f_X5_placeOf
  refine BdS_LpL (fun i => nI i) p (nI p) rfl ?_ ?_ (by omega)
  · intro i hi
    unfold b_X5_placeOf_2
    simp only [Lt_eq]
    have h3 := hw i (by omega)
    rw [if_neg (nI_ge (show i < n by omega) (by omega)), bellIn_enc hn hw (by omega), if_neg (fun e => h2 i hi (nI_inj (by omega) (by omega) e)), nI_1]
  · unfold b_X5_placeOf_2
    rw [if_neg (nI_ge hp (by omega)), bellIn_enc hn hw hp, h1, if_pos rfl]
