theorem Lp_for {σ τ : Type} {f : σ → Option (σ ⊕ τ)} (st : Nat → σ) (e : Nat) (t : τ) (hs : ∀ i, i < e → f (st i) = some (.inl (st (i + 1)))) (he : f (st e) = some (.inr t)) : ∀ (n i : Nat), i ≤ e → e - i < n → Lp f n (st i) = some t := by
  intro n
  induction n with
  | zero => intro i _ h; omega
  | succ n ih =>
    intro i hi hn
    by_cases h : i = e
    · subst h
      simp only [Lp, he, Option.bind_some]
    · simp only [Lp, hs i (by omega), Option.bind_some]
      exact ih (i + 1) (by omega) (by omega)
/-- from 0, with the fuel that the shallow functions carry -/
theorem Lp_from {σ τ : Type} {f : σ → Option (σ ⊕ τ)} {s0 : σ} (st : Nat → σ) (e : Nat) (t : τ) (h0 : s0 = st 0) (hs : ∀ i, i < e → f (st i) = some (.inl (st (i + 1)))) (he : f (st e) = some (.inr t)) (hb : e < 100000) : Lp f 100000 s0 = some t := by
  rw [h0]
  exact Lp_for st e t hs he 100000 0 (by omega) (by omega)
/-- an invariant and a measure -/
theorem Lp_inv {σ τ : Type} {f : σ → Option (σ ⊕ τ)} (I : σ → Prop) (μ : σ → Nat) (P : τ → Prop) (h : ∀ s, I s → (∃ s', f s = some (.inl s') ∧ I s' ∧ μ s' < μ s) ∨ ∃ t, f s = some (.inr t) ∧ P t) : ∀ (n : Nat) (s : σ), I s → μ s < n → ∃ t, Lp f n s = some t ∧ P t := by
  intro n
  induction n with
  | zero => intro s _ hn; omega
  | succ n ih =>
    intro s hs hn
    rcases h s hs with ⟨s', h1, h2, h3⟩ | ⟨t, h1, h2⟩
    · obtain ⟨t, h4, h5⟩ := ih s' h2 (by omega)
      exact ⟨t, by simp only [Lp, h1, Option.bind_some]; exact h4, h5⟩
    · exact ⟨t, by simp only [Lp, h1, Option.bind_some], h2⟩
theorem Bd_some {α β : Type} {a : α} {k : α → Option β} : Bd (some a) k = k a := rfl
theorem BdS_inl {α ρ : Type} {r : ρ} {k : α → Option ρ} : BdS (some (.inl r)) k = some r := rfl
theorem BdS_inr {α ρ : Type} {a : α} {k : α → Option ρ} : BdS (some (.inr a)) k = k a := rfl
theorem Lt_eq {α β : Type} {e : α} {k : α → β} : Lt e k = k e := rfl
theorem Gd_t {τ : Type} {c : Prop} {inst : Decidable c} {o : Option τ} (h : c) : @Gd τ c inst o = o := by unfold Gd; rw [if_pos h]
theorem sl_amt : ∀ k, k < 32 → ((nI k &&& 31).toBitVec.smod 32).toNat = k := by decide +kernel
theorem sl_nI {a k : Nat} (hk : k < 32) (h : a * 2 ^ k < 2 ^ 32) : sl (nI a) (nI k) = nI (a * 2 ^ k) := pk_shlN _ k (sl_amt k hk) h
theorem sr_nI {a k : Nat} (hk : k < 32) (h : a < 2 ^ 31) : sr (nI a) (nI k) = nI (a / 2 ^ k) := pk_shrN h _ k (sl_amt k hk)
theorem us_amt : ∀ k, k < 32 → (((nI k).toUInt32 &&& Int32.toUInt32 31).toBitVec % 32).toNat = k := by decide +kernel
theorem us_nI {a k : Nat} (hk : k < 32) (h : a < 2 ^ 32) : us (nI a) (nI k) = nI (a / 2 ^ k) := pk_ushrN h _ k (us_amt k hk)
theorem rm_nI {a b : Nat} (ha : a < 2 ^ 31) (h0 : 0 < b) (hb : b < 2 ^ 31) : rm (nI a) (nI b) = nI (a % b) := pk_rem ha h0 hb
theorem lit_nI (n : Nat) : (OfNat.ofNat n : Int32) = nI n := rfl
theorem nI_and (a b : Nat) : nI a &&& nI b = nI (a &&& b) := by
  apply Int32.toBitVec_inj.1
  show BitVec.ofNat 32 a &&& BitVec.ofNat 32 b = BitVec.ofNat 32 (a &&& b)
  apply BitVec.eq_of_getLsbD_eq
  intro i hi
  simp [hi]
theorem nI_or (a b : Nat) : nI a ||| nI b = nI (a ||| b) := by
  apply Int32.toBitVec_inj.1
  show BitVec.ofNat 32 a ||| BitVec.ofNat 32 b = BitVec.ofNat 32 (a ||| b)
  apply BitVec.eq_of_getLsbD_eq
  intro i hi
  simp [hi]
theorem nI_xor (a b : Nat) : nI a ^^^ nI b = nI (a ^^^ b) := by
  apply Int32.toBitVec_inj.1
  show BitVec.ofNat 32 a ^^^ BitVec.ofNat 32 b = BitVec.ofNat 32 (a ^^^ b)
  apply BitVec.eq_of_getLsbD_eq
  intro i hi
  simp [hi]
theorem ib_nI {i n : Nat} (h : i < 2 ^ 31) : ib (nI i) n ↔ i < n := by
  unfold ib
  rw [nI_toInt h]
  omega
theorem ix_nI {i : Nat} (h : i < 2 ^ 31) : ix (nI i) = i := nI_clamp h
theorem nI_inj {a b : Nat} (ha : a < 2 ^ 31) (hb : b < 2 ^ 31) (h : nI a = nI b) : a = b := (nI_eq ha hb).mp h
theorem nI_m1 {a : Nat} (h : a < 2 ^ 31) : ¬ nI a = (-1 : Int32) := by
  intro e
  have := congrArg Int32.toInt e
  rw [nI_toInt h] at this
  have e2 : (-1 : Int32).toInt = -1 := by decide
  omega
theorem zb_nI {a : Nat} (h : a < 2) : zb (nI a) := by
  rcases (show a = 0 ∨ a = 1 by omega) with rfl | rfl
  · exact Or.inl rfl
  · exact Or.inr rfl
theorem nI_lt0 {a : Nat} (h : a < 2 ^ 31) : ¬ nI a < 0 := nI_pos h
/-- of any int: below 0, or a natural number -/
theorem i_cases (v : Int32) : v < 0 ∨ ∃ a : Nat, a < 2 ^ 31 ∧ v = nI a := by
  by_cases h : v < 0
  · exact Or.inl h
  · exact Or.inr (nI_of h)
