/-! the whole text: readInto's loop against isRead's -/
theorem skip_any {len : Nat} {tx : Nat → Nat} {M : Mm} (h : CTx len tx M) : ∃ M', f_X7_skipBlanks 35 M = some M' ∧ ∀ o j, ¬ (o = 35 ∧ j = 3) → M' o j = M o j := by
  have hl := h.1
  have key : b_X7_skipBlanks_0 35 M = some (.inr M) → ∃ M', f_X7_skipBlanks 35 M = some M' ∧ ∀ o j, ¬ (o = 35 ∧ j = 3) → M' o j = M o j := fun s1 => by
    refine ⟨M, ?_, fun _ _ _ => rfl⟩
    unfold f_X7_skipBlanks
    rw [show (100000 : Nat) = 99999 + 1 from rfl, Lp_e s1, Bd_some]
  rcases rng_cases 0 len (by omega) (by omega) (M 35 3) with ⟨a, z1, z2, z3⟩ | z | ⟨z1, z2, z3⟩
  · obtain ⟨q, hq⟩ := skp_ex (tx := tx) z2
    obtain ⟨M', g1, g2, g3⟩ := skipC h z3 hq
    exact ⟨M', g1, g3⟩
  · refine key ?_
    unfold b_X7_skipBlanks_0 f_X7_letterHere
    by_cases c : M 35 0 ≤ M 35 3
    · rw [if_pos c]
    · rw [if_neg c, if_pos (show M 35 3 < 0 from z), Bd_some, if_neg (show ¬ (-1 : Int32) = (32 : Int32) by decide)]
  · refine key ?_
    unfold b_X7_skipBlanks_0
    rw [if_pos (show M 35 0 ≤ M 35 3 by rw [h.2.1]; exact Int32.le_of_lt z2)]
theorem nI_m2 {a : Nat} (h : a < 2 ^ 31) : ¬ nI a = (-2 : Int32) := by
  intro e
  have := congrArg Int32.toInt e
  rw [nI_toInt h] at this
  have e2 : (-2 : Int32).toInt = -2 := by decide
  omega
def TKe (len : Nat) (tx : Nat → Nat) (q : Nat) (M : Mm) : Prop := (q < len → TK len tx q M) ∧ (q = len → M 128 4 = (-2 : Int32))
theorem tokE {len p q : Nat} {tx : Nat → Nat} {M : Mm} (h : RTx len tx M) (h2 : M 128 2 = nI p) (hq : SKP len tx p q) : ∃ M', f_X12_nextToken 128 M = some M' ∧ TKe len tx q M' ∧ ∀ o j, ¬ (o = 128 ∧ 2 ≤ j ∧ j ≤ 6) → M' o j = M o j := by
  obtain ⟨M', g1, g2, g3, g4, g5, g6⟩ := tokM h h2 hq
  refine ⟨M', g1, ⟨fun hl => ⟨g2, fun hn => g4 hl hn, fun hf => ?_⟩, fun he => (g3 he).1⟩, g6⟩
  obtain ⟨e, he⟩ := dgp_ex (tx := tx) (show q ≤ len by omega)
  have h1 := he.1
  by_cases c : q = e
  · subst c
    exact absurd hf (he.2.2.2 hl)
  · exact (g5 e (by omega) he).1
def rdT (e11 : Mm) : Option (Int32 × Mm) := some ((1 : Int32), e11)
theorem FrC_t {dt : Nat} {A B D : Mm} (h1 : FrC dt A B) (h2 : FrC dt B D) : FrC dt A D := fun o i g => (h2 o i g).trans (h1 o i g)
theorem FrS_t {dt : Nat} {A B D : Mm} (h1 : FrS dt A B) (h2 : FrS dt B D) : FrS dt A D := fun o i g => (h2 o i g).trans (h1 o i g)
theorem FrR_t {A B D : Mm} (h1 : FrR A B) (h2 : FrR B D) : FrR A D := fun o i g => (h2 o i g).trans (h1 o i g)
/-- the class's loop ends -/
theorem ri_end {dt : Nat} {x : Int32} {M : Mm} (h : M 35 0 ≤ M 35 3 ∨ ¬ M 35 5 = 0) : b_X7_readInto_25 35 dt (x, M) = some (.inr M) := by
  unfold b_X7_readInto_25
  by_cases c : (240 : Int32) ≤ x
  · rw [if_pos c]
  · rw [if_neg c]
    by_cases c2 : M 35 0 ≤ M 35 3
    · rw [if_pos c2]
    · rw [if_neg c2, if_neg (show ¬ M 35 5 = 0 from h.resolve_left c2)]
theorem ri_step {len i q dt : Nat} {tx : Nat → Nat} {M M1 M2 : Mm} (hc : CTx len tx M) (h4 : M 35 3 = nI q) (hq : q < len) (hi : i ≤ q) (h6 : M 35 5 = 0) (h1 : f_X7_readClause 35 dt M = some M1) (h2 : f_X7_skipBlanks 35 M1 = some M2) : b_X7_readInto_25 35 dt (nI i, M) = some (.inl (nI (i + 1), M2)) := by
  have hl := hc.1
  unfold b_X7_readInto_25
  simp only [Lt_eq]
  rw [if_neg (show ¬ (240 : Int32) ≤ nI i from nI_ge (b := 240) (by omega) (by omega)), if_neg (show ¬ M 35 0 ≤ M 35 3 by rw [hc.2.1, h4]; exact nI_ge hq (by omega)), if_pos h6, h1, Bd_some, h2, Bd_some, nI_1]
theorem readL {len : Nat} {tx : Nat → Nat} (hlen : len ≤ 240) (htx : ∀ i, i < len → tx i < 256) : ∀ (d q n k ns : Nat) (cl : Option Nat) (W Me S : Nat → Nat), len ≤ q + d → q ≤ len → VD n k ns cl W Me S → (∃ fl pos, (0 < fl ∧ fl ≤ 4) ∧ pos ≤ len ∧ (∀ (Mc : Mm) (dt f i : Nat), CTx len tx Mc → Mc 35 3 = nI q → Mc 35 5 = 0 → PTc dt n k ns cl W Me S Mc → i ≤ q → 2 + len ≤ f + q → ∃ M', Lp (b_X7_readInto_25 35 dt) f (nI i, Mc) = some M' ∧ M' 35 5 = nI fl ∧ M' 35 1 = nI pos ∧ FrC dt Mc M') ∧ (∀ (Mr : Mm) (f : Nat), RTx len tx Mr → TKe len tx q Mr → PTr n k ns cl W Me S Mr → 2 + len ≤ f + q → ∃ M', BdS (Lp (b_X12_isRead_29 128) f Mr) rdT = some (0, M') ∧ M' 128 7 = nI pos ∧ M' 128 8 = nI fl ∧ FrR Mr M')) ∨ (∃ (n' k' ns' : Nat) (cl' : Option Nat) (W' Me' S' : Nat → Nat), VD n' k' ns' cl' W' Me' S' ∧ (∀ (Mc : Mm) (dt f i : Nat), CTx len tx Mc → Mc 35 3 = nI q → Mc 35 5 = 0 → PTc dt n k ns cl W Me S Mc → i ≤ q → 2 + len ≤ f + q → ∃ M', Lp (b_X7_readInto_25 35 dt) f (nI i, Mc) = some M' ∧ M' 35 5 = 0 ∧ PTc dt n' k' ns' cl' W' Me' S' M' ∧ FrS dt Mc M') ∧ (∀ (Mr : Mm) (f : Nat), RTx len tx Mr → TKe len tx q Mr → PTr n k ns cl W Me S Mr → 2 + len ≤ f + q → ∃ M', BdS (Lp (b_X12_isRead_29 128) f Mr) rdT = some (1, M') ∧ PTr n' k' ns' cl' W' Me' S' M' ∧ FrR Mr M')) := by
  have hend : ∀ (n k ns : Nat) (cl : Option Nat) (W Me S : Nat → Nat), VD n k ns cl W Me S → (∃ (n' k' ns' : Nat) (cl' : Option Nat) (W' Me' S' : Nat → Nat), VD n' k' ns' cl' W' Me' S' ∧ (∀ (Mc : Mm) (dt f i : Nat), CTx len tx Mc → Mc 35 3 = nI len → Mc 35 5 = 0 → PTc dt n k ns cl W Me S Mc → i ≤ len → 2 + len ≤ f + len → ∃ M', Lp (b_X7_readInto_25 35 dt) f (nI i, Mc) = some M' ∧ M' 35 5 = 0 ∧ PTc dt n' k' ns' cl' W' Me' S' M' ∧ FrS dt Mc M') ∧ (∀ (Mr : Mm) (f : Nat), RTx len tx Mr → TKe len tx len Mr → PTr n k ns cl W Me S Mr → 2 + len ≤ f + len → ∃ M', BdS (Lp (b_X12_isRead_29 128) f Mr) rdT = some (1, M') ∧ PTr n' k' ns' cl' W' Me' S' M' ∧ FrR Mr M')) := fun n k ns cl W Me S hV => by
    refine ⟨n, k, ns, cl, W, Me, S, hV, fun Mc dt f i hc h4 h6 hP _ hf => ?_, fun Mr f hr hk hP hf => ?_⟩
    · obtain ⟨f', rfl⟩ : ∃ f', f = f' + 1 := ⟨f - 1, by omega⟩
      exact ⟨Mc, Lp_e (ri_end (Or.inl (by rw [hc.2.1, h4]; exact nI_le (Nat.le_refl _) (by omega)))), h6, hP, fun _ _ _ => rfl⟩
    · obtain ⟨f', rfl⟩ : ∃ f', f = f' + 1 := ⟨f - 1, by omega⟩
      have s1 : b_X12_isRead_29 128 Mr = some (.inr (.inr Mr)) := by unfold b_X12_isRead_29; rw [if_pos (hk.2 rfl)]
      exact ⟨Mr, by rw [Lp_e s1, BdS_inr]; rfl, hP, fun _ _ _ => rfl⟩
  intro d
  induction d with
  | zero =>
    intro q n k ns cl W Me S hd hq hV
    obtain rfl : q = len := by omega
    exact Or.inr (hend n k ns cl W Me S hV)
  | succ d ih =>
    intro q n k ns cl W Me S hd hq hV
    by_cases hql : q = len
    · subst hql
      exact Or.inr (hend n k ns cl W Me S hV)
    have hlt : q < len := by omega
    have hnt : ∀ {Mr : Mm}, TKe len tx q Mr → ¬ Mr 128 4 = (-2 : Int32) := fun {Mr} hk => by
      have h1 := hk.1 hlt
      have h2 := htx q hlt
      by_cases c : 48 ≤ tx q ∧ tx q ≤ 57
      · rw [h1.2.2 c]; decide
      · rw [(h1.2.1 c).1]
        exact nI_m2 (by omega)
    rcases clause_cases hlen htx hlt hV with ⟨fl, pos, w1, w2, w3, w4⟩ | ⟨n', k', ns', cl', W', Me', S', p', w0, w1, w2, w3, w4⟩
    · refine Or.inl ⟨fl, pos, w1, w2, fun Mc dt f i hc h4 h6 hP hi hf => ?_, fun Mr f hr hk hP hf => ?_⟩
      · have hdt := hP.1
        obtain ⟨M1, a1, a2, a3, a4⟩ := w3 Mc dt hc h4 h6 hP
        have hc1 : CTx len tx M1 := CTx_c (fun o j g => a4 o j (by omega)) hc
        obtain ⟨M2, b1, b2⟩ := skip_any hc1
        obtain ⟨f', rfl⟩ : ∃ f', f = f' + 2 := ⟨f - 2, by omega⟩
        have h26 : M2 35 5 = nI fl := by rw [b2 35 5 (by omega)]; exact a2
        refine ⟨M2, ?_, h26, by rw [b2 35 1 (by omega)]; exact a3, FrC_t a4 (fun o j g => b2 o j (by omega))⟩
        rw [Lp_s (ri_step hc h4 hlt hi h6 a1 b1), Lp_e (ri_end (Or.inr (by rw [h26]; exact nI_ne0 w1.1 (by omega))))]
      · obtain ⟨M1, a1, a2, a3, a4⟩ := w4 Mr hr (hk.1 hlt) hP
        obtain ⟨f', rfl⟩ : ∃ f', f = f' + 1 := ⟨f - 1, by omega⟩
        have s1 : b_X12_isRead_29 128 Mr = some (.inr (.inl ((0 : Int32), M1))) := by
          unfold b_X12_isRead_29
          rw [if_neg (hnt hk), a1, Bd_some, if_pos rfl]
        exact ⟨M1, by rw [Lp_e s1, BdS_inl], a2, a3, a4⟩
    · obtain ⟨q2, hs⟩ := skp_ex (tx := tx) w2
      have hs1 := hs.1
      have hs2 := hs.2.1
      have hk12 : k' ≤ 12 := w0.2.1
      have stepC : ∀ (Mc : Mm) (dt i : Nat), CTx len tx Mc → Mc 35 3 = nI q → Mc 35 5 = 0 → PTc dt n k ns cl W Me S Mc → i ≤ q → ∃ M2, b_X7_readInto_25 35 dt (nI i, Mc) = some (.inl (nI (i + 1), M2)) ∧ CTx len tx M2 ∧ M2 35 3 = nI q2 ∧ M2 35 5 = 0 ∧ PTc dt n' k' ns' cl' W' Me' S' M2 ∧ FrS dt Mc M2 := fun Mc dt i hc h4 h6 hP hi => by
        have hdt := hP.1
        obtain ⟨M1, a1, a2, a3, a4, a5⟩ := w3 Mc dt hc h4 h6 hP
        have hc1 : CTx len tx M1 := CTx_c (fun o j g => a5 o j (by omega)) hc
        obtain ⟨M2, b1, b2, b3⟩ := skipC hc1 a3 hs
        exact ⟨M2, ri_step hc h4 hlt hi h6 a1 b1, CTx_c (fun o j g => b3 o j (by omega)) hc1, b2, by rw [b3 35 5 (by omega)]; exact a2, PTc_c hk12 (fun o j g => b3 o j (by omega)) a4, FrS_t a5 (fun o j g => b3 o j (by omega))⟩
      have stepR : ∀ (Mr : Mm), RTx len tx Mr → TKe len tx q Mr → PTr n k ns cl W Me S Mr → ∃ M2, b_X12_isRead_29 128 Mr = some (.inl M2) ∧ RTx len tx M2 ∧ TKe len tx q2 M2 ∧ PTr n' k' ns' cl' W' Me' S' M2 ∧ FrR Mr M2 := fun Mr hr hk hP => by
        obtain ⟨M1, a1, a2, a3, a4⟩ := w4 Mr hr (hk.1 hlt) hP
        have hr1 : RTx len tx M1 := RTx_c (fun o j g => a4 o j (by omega)) hr
        obtain ⟨M2, b1, b2, b3⟩ := tokE hr1 a2 hs
        refine ⟨M2, ?_, RTx_c (fun o j g => b3 o j (by omega)) hr1, b2, PTr_c (fun o j g => b3 o j (by omega)) a3, FrR_t a4 (fun o j g => b3 o j (by omega))⟩
        unfold b_X12_isRead_29
        rw [if_neg (hnt hk), a1, Bd_some, if_neg one_ne, b1, Bd_some]
      rcases ih q2 n' k' ns' cl' W' Me' S' (by omega) hs2 w0 with ⟨fl, pos, v1, v2, v3, v4⟩ | ⟨n2, k2, ns2, cl2, W2, Me2, S2, v0, v3, v4⟩
      · refine Or.inl ⟨fl, pos, v1, v2, fun Mc dt f i hc h4 h6 hP hi hf => ?_, fun Mr f hr hk hP hf => ?_⟩
        · obtain ⟨M2, s1, s2', s3, s4, s5, s6⟩ := stepC Mc dt i hc h4 h6 hP hi
          obtain ⟨f', rfl⟩ : ∃ f', f = f' + 1 := ⟨f - 1, by omega⟩
          obtain ⟨M', k1, k2, k3, k4⟩ := v3 M2 dt f' (i + 1) s2' s3 s4 s5 (by omega) (by omega)
          exact ⟨M', by rw [Lp_s s1]; exact k1, k2, k3, FrC_t (FsC s6) k4⟩
        · obtain ⟨M2, s1, s2', s3, s4, s5⟩ := stepR Mr hr hk hP
          obtain ⟨f', rfl⟩ : ∃ f', f = f' + 1 := ⟨f - 1, by omega⟩
          obtain ⟨M', k1, k2, k3, k4⟩ := v4 M2 f' s2' s3 s4 (by omega)
          exact ⟨M', by rw [Lp_s s1]; exact k1, k2, k3, FrR_t s5 k4⟩
      · refine Or.inr ⟨n2, k2, ns2, cl2, W2, Me2, S2, v0, fun Mc dt f i hc h4 h6 hP hi hf => ?_, fun Mr f hr hk hP hf => ?_⟩
        · obtain ⟨M2, s1, s2', s3, s4, s5, s6⟩ := stepC Mc dt i hc h4 h6 hP hi
          obtain ⟨f', rfl⟩ : ∃ f', f = f' + 1 := ⟨f - 1, by omega⟩
          obtain ⟨M', k1, k2, k3, k4⟩ := v3 M2 dt f' (i + 1) s2' s3 s4 s5 (by omega) (by omega)
          exact ⟨M', by rw [Lp_s s1]; exact k1, k2, k3, FrS_t s6 k4⟩
        · obtain ⟨M2, s1, s2', s3, s4, s5⟩ := stepR Mr hr hk hP
          obtain ⟨f', rfl⟩ : ∃ f', f = f' + 1 := ⟨f - 1, by omega⟩
          obtain ⟨M', k1, k2, k3⟩ := v4 M2 f' s2' s3 s4 (by omega)
          exact ⟨M', by rw [Lp_s s1]; exact k1, k2, FrR_t s5 k3⟩
