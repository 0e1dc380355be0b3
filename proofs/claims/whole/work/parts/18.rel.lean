/-! what the cells of the class say, in numbers -/
def CHr (n c : Nat) (r : Nat → Int32) : Prop := c < 2 ^ n ∧ isC n c = true ∧ r 0 = nI c ∧ r 1 = nI (enc n (stW c)) ∧ r 2 = nI (enc n (fsW c))
theorem next_spec {o n c : Nat} {w : Nat → Nat} {M : Mm} (hn : n ≤ 6) (hc : CHr n c (M o)) (hw : ∀ p, p < n → w p < 8) : f_X0_next o (nI (enc n w)) M = nI (enc n (fun p => w (pm c p))) := by
  obtain ⟨-, hi, -, h1, h2⟩ := hc
  unfold f_X0_next
  have hb := enc_b hn hw
  have hb2 : enc n w &&& enc n (fsW c) < 262144 := Nat.lt_of_le_of_lt Nat.and_le_left hb
  rw [h1, h2, nI_and, nI_and, show (3 : Int32) = nI 3 from rfl, sl_nI (by omega) (by omega), sr_nI (by omega) (by omega), nI_and, nI_or, nI_or, show 2 ^ 3 = 8 from rfl, next_nat hi hw]
/-- the tower at t -/
def TV (n k ns C : Nat) (Me W S : Nat → Nat) : Prop := ((n = 0 ∧ k = 0 ∧ ns = 0) ∨ (3 ≤ n ∧ n ≤ 6 ∧ 1 ≤ k ∧ k ≤ 12 ∧ ns ≤ n)) ∧ C < 2 ^ n ∧ isC n C = true ∧ (∀ i, i < k → Me i < 2 ^ n ∧ isC n (Me i) = true) ∧ (∀ i, i < n → W i < 32) ∧ ∀ i, i < ns → S i < 32
def TW (t n k ns C : Nat) (Me W S : Nat → Nat) (M : Mm) : Prop := (t = 1 ∨ t = 18) ∧ M t 0 = nI n ∧ M t 1 = nI k ∧ M t 2 = nI ns ∧ (0 < n → CHr n C (M (t + 1))) ∧ (∀ i, i < k → CHr n (Me i) (M (t + 5 + i))) ∧ (∀ i, i < n → M (t + 3) i = nI (W i)) ∧ ∀ i, i < ns → M (t + 4) i = nI (S i)
theorem kd_tw {t : Nat} (h : t = 1 ∨ t = 18) : KDF[t]? = some (9, 0) := by rcases h with rfl | rfl <;> rfl
theorem kd_ch {t i : Nat} (h : t = 1 ∨ t = 18) (hi : i < 12) : KDF[t + 5 + i]? = some (0, 0) := by
  have : ∀ i, i < 12 → KDF[1 + 5 + i]? = some (0, 0) ∧ KDF[18 + 5 + i]? = some (0, 0) := by decide +kernel
  rcases h with rfl | rfl
  · exact (this i hi).1
  · exact (this i hi).2
theorem changeAt_spec {t k cm : Nat} {M : Mm} (ht : t = 1 ∨ t = 18) (hk : M t 1 = nI k) (hk2 : k ≤ 12) (hc : cm < k) : f_X9_changeAt t (nI cm) M = some (t + 5 + cm) := by
  unfold f_X9_changeAt
  rw [if_neg (nI_lt0 (by omega)), hk, if_neg (nI_ge hc (by omega)), Gd_t ((ib_nI (by omega)).mpr (by omega)), ix_nI (by omega), show t + 2 + 3 + cm = t + 5 + cm by omega, Gd_t (kd_ch ht (by omega))]
/-- a walk: row, how many have come of this lead, called -/
def WKr (n : Nat) (w : Nat → Nat) (cm cl : Nat) (r : Nat → Int32) : Prop := r 0 = nI (enc n w) ∧ r 1 = nI cm ∧ r 2 = nI cl
def nxc (k cm : Nat) : Nat := if cm + 1 < k then cm + 1 else 0
theorem step_spec {wo t n k ns C cm cl : Nat} {Me W S w : Nat → Nat} {M : Mm} (hT : TW t n k ns C Me W S M) (hV : TV n k ns C Me W S) (hn : 0 < n) (hW : WKr n w cm cl (M wo)) (hcm : cm < k) (hcl : cl < 2) (hw : ∀ p, p < n → w p < 8) (ho : 37 ≤ wo) : ∃ M', f_X10_step wo t M = some M' ∧ WKr n (fun p => w (pm (if cl = 1 then C else Me cm) p)) (nxc k cm) 0 (M' wo) ∧ ∀ o, o ≠ wo → M' o = M o := by
  obtain ⟨ht, h0, h1, h2, h3, h4, -, -⟩ := hT
  obtain ⟨hb, -⟩ := hV
  have hn6 : n ≤ 6 := by omega
  have hk : k ≤ 12 := by omega
  obtain ⟨w0, w1, w2⟩ := hW
  have key : ∀ (j c : Nat), CHr n c (M j) → KDF[j]? = some (0, 0) → c = (if cl = 1 then C else Me cm) → ∃ M', (Gd (KDF[j]? = some (0, 0)) (Lt (st2 M wo 0 (f_X0_next j (M wo 0) M)) (fun M7 => Lt (st2 M7 wo 2 (0 : Int32)) (fun M8 => Lt (((if (M8 t 1) ≤ ((M8 wo 1) + (1 : Int32)) then (0 : Int32) else ((M8 wo 1) + (1 : Int32)))) : Int32) (fun j9 => Lt (st2 M8 wo 1 j9) (fun M11 => some M11)))))) = some M' ∧ WKr n (fun p => w (pm (if cl = 1 then C else Me cm) p)) (nxc k cm) 0 (M' wo) ∧ ∀ o, o ≠ wo → M' o = M o := by
    intro j c hc hj hcc
    subst hcc
    rw [Gd_t hj]
    simp only [Lt_eq]
    have hto : t ≠ wo := by omega
    refine ⟨_, rfl, ⟨?_, ?_, ?_⟩, fun o ho2 => ?_⟩
    · rw [s2_nk (by decide), s2_nk (by decide), s2_eq, w0, next_spec hn6 hc hw]
    · rw [s2_eq, s2_ne hto, s2_ne hto, h1, s2_nk (by decide), s2_nk (by decide), w1, nI_1]
      unfold nxc
      by_cases hx : cm + 1 < k
      · rw [if_neg (nI_ge hx (by omega)), if_pos hx]
      · rw [if_pos (nI_le (by omega) (by omega)), if_neg hx]
        rfl
    · rw [s2_nk (by decide), s2_eq]
      rfl
    · rw [s2_ne ho2, s2_ne ho2, s2_ne ho2]
  unfold f_X10_step
  rw [w2]
  rcases (show cl = 0 ∨ cl = 1 by omega) with rfl | rfl
  · rw [if_pos (show nI 0 = 0 from rfl), w1, changeAt_spec ht h1 hk hcm]
    rw [Bd_some, Gd_t (kd_ch ht (by omega)), Bd_some]
    exact key (t + 5 + cm) (Me cm) (h4 cm hcm) (kd_ch ht (by omega)) rfl
  · rw [if_neg (show ¬ nI 1 = 0 by decide), Bd_some]
    exact key (t + 1) C (h3 hn) (by rcases ht with rfl | rfl <;> rfl) rfl
