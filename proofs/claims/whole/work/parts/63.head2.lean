theorem rc_step {dt wd told v : Nat} {g : Int32} {Mc M1 M2 M3 : Mm} (hto : told ≤ mostW wd) (r1 : f_X7_readNumber 35 (nI wd) dt Mc = some (nI v, M1)) (r6 : M1 35 5 = 0) (e1 : f_X7_enter (nI wd) (nI v) dt M1 = some (1, M2)) (e6 : M2 35 5 = 0) (g1 : f_X7_goesOn 35 (nI wd) (nI told) M2 = some (g, M3)) (hg : g = 0 ∨ g = 1) : b_X7_readClause_47 35 dt (nI wd) (nI (mostW wd)) ((1 : Int32), nI told, Mc) = some (.inl (g, nI (told + 1), M3)) := by
  have hm := mostW_le wd
  unfold b_X7_readClause_47
  simp only [Lt_eq]
  rw [if_neg (nI_nlt hto (by omega)), if_neg one_ne, r1, Bd_some]
  dsimp only
  rw [if_pos r6, e1, Bd_some, if_neg one_ne, Bd_some]
  dsimp only
  rw [if_pos e6, g1, Bd_some, nI_1]
  rcases hg with rfl | rfl
  · rw [if_pos rfl, Bd_some]
  · rw [if_neg one_ne, Bd_some]
theorem rc_end {dt wd x : Nat} {M : Mm} : b_X7_readClause_47 35 dt (nI wd) (nI (mostW wd)) ((0 : Int32), nI x, M) = some (.inr M) := by
  unfold b_X7_readClause_47
  by_cases c : nI (mostW wd) < nI x
  · rw [if_pos c]
  · rw [if_neg c, if_pos rfl]
theorem failsR {fl : Int32} {M : Mm} : f_X12_fails 128 fl M = some ((0 : Int32), st2 (st2 M 128 7 (M 128 3)) 128 8 fl) := rfl
/-- the numbers of clause b -/
theorem headL {len : Nat} {tx Me S : Nat → Nat} (hlen : len ≤ 240) (htx : ∀ i, i < len → tx i < 256) : ∀ (d j p : Nat) (W : Nat → Nat), j + d = 6 → 0 < d → p ≤ len → (∀ i, i < j → W i < 32) → (∃ fl pos, (fl = 1 ∨ fl = 2) ∧ pos ≤ len ∧ (∀ (Mc : Mm) (dt f : Nat), CTx len tx Mc → Mc 35 3 = nI p → Mc 35 5 = 0 → PTc dt j 0 0 none W Me S Mc → 20 ≤ f + j → ∃ M', Lp (b_X7_readClause_47 35 dt (nI 98) (nI 6)) f ((1 : Int32), nI (j + 1), Mc) = some M' ∧ M' 35 5 = nI fl ∧ M' 35 1 = nI pos ∧ FrC dt Mc M') ∧ (∀ (Mr : Mm) (f : Nat), RTx len tx Mr → Mr 128 2 = nI p → PTr j 0 0 none W Me S Mr → 20 ≤ f + j → ∃ M', BdS (Lp (b_X12_isHead_2 128) f ((1 : Int32), Mr)) hdT = some (0, M') ∧ M' 128 7 = nI pos ∧ M' 128 8 = nI fl ∧ FrR Mr M')) ∨ (∃ n p' W', 3 ≤ n ∧ n ≤ 6 ∧ p < p' ∧ p' ≤ len ∧ (∀ i, i < n → W' i < 32) ∧ (∀ (Mc : Mm) (dt f : Nat), CTx len tx Mc → Mc 35 3 = nI p → Mc 35 5 = 0 → PTc dt j 0 0 none W Me S Mc → 20 ≤ f + j → ∃ M', Lp (b_X7_readClause_47 35 dt (nI 98) (nI 6)) f ((1 : Int32), nI (j + 1), Mc) = some M' ∧ M' 35 5 = 0 ∧ M' 35 3 = nI p' ∧ PTc dt n 0 0 none W' Me S M' ∧ FrS dt Mc M') ∧ (∀ (Mr : Mm) (f : Nat), RTx len tx Mr → Mr 128 2 = nI p → PTr j 0 0 none W Me S Mr → 20 ≤ f + j → ∃ M', BdS (Lp (b_X12_isHead_2 128) f ((1 : Int32), Mr)) hdT = some (1, M') ∧ M' 128 2 = nI p' ∧ PTr n 0 0 none W' Me S M' ∧ FrR Mr M')) := by
  intro d
  induction d with
  | zero => intro j p W _ h0; exact absurd h0 (by omega)
  | succ d ih =>
    intro j p W hj _ hp hW
    have hj6 : j < 6 := by omega
    have hmw : mostW 98 = 6 := rfl
    have hfw : fewW 98 = 3 := rfl
    obtain ⟨q, q1, q2, hnum⟩ := num_cases (lo := 1) (hi := 20) hlen htx hp (by omega) (by omega)
    have hwb : ∀ (M : Mm) (dt : Nat), WBd 98 dt 0 1 20 M := fun M dt => Or.inl ⟨Or.inl rfl, rfl, rfl⟩
    have n6 : ∀ Mr : Mm, PTr j 0 0 none W Me S Mr → ¬ Mr 128 9 = (6 : Int32) := fun Mr h => by rw [h.1]; exact fun z => by have := nI_inj (b := 6) (by omega) (by omega) z; omega
    rcases hnum with ⟨fl, hfl, hC, hR⟩ | ⟨v, e, ve, el, v1, v2, hC, hR⟩
    · refine Or.inl ⟨fl, q, hfl, q2, fun Mc dt f hc h4 h6 hP hf => ?_, fun Mr f hr h2 hP hf => ?_⟩
      · obtain ⟨M', k1, k2, k3, k4⟩ := rc_fail (wd := 98) (told := j + 1) (f := f) hfl (by rw [hmw]; omega) (hC Mc 98 dt 0 (by omega) hc h4 h6 (hwb Mc dt)) (by omega)
        exact ⟨M', k1, k2, k3, fun o i g => k4 o i (fun z => g (Or.inl z))⟩
      · obtain ⟨M', k1, k2, k3, k4⟩ := hR Mr hr h2
        obtain ⟨f', rfl⟩ : ∃ f', f = f' + 1 := ⟨f - 1, by omega⟩
        have s1 : b_X12_isHead_2 128 ((1 : Int32), Mr) = some (.inr (.inl ((0 : Int32), M'))) := by
          unfold b_X12_isHead_2
          rw [if_neg one_ne, if_neg (n6 Mr hP), show f_X12_isNumber 128 (1 : Int32) (20 : Int32) Mr = some (0, M') from k1, Bd_some, if_pos rfl]
        refine ⟨M', by rw [Lp_e s1, BdS_inl], k2, k3, fun o i g => k4 o i (by omega)⟩
    · obtain ⟨q', hq'⟩ := skp_ex (tx := tx) el
      have hq'l := hq'.2.1
      have hq'1 := hq'.1
      -- the class up to the sign
      have cls : ∀ (Mc : Mm) (dt : Nat), CTx len tx Mc → Mc 35 3 = nI p → Mc 35 5 = 0 → PTc dt j 0 0 none W Me S Mc → ∃ M1 M2, f_X7_readNumber 35 (nI 98) dt Mc = some (nI v, M1) ∧ M1 35 5 = 0 ∧ f_X7_enter (nI 98) (nI v) dt M1 = some (1, M2) ∧ M2 35 5 = 0 ∧ M2 35 3 = nI e ∧ CTx len tx M2 ∧ PTc dt (j + 1) 0 0 none (fun i => if i = j then v else W i) Me S M2 ∧ FrS dt Mc M2 := fun Mc dt hc h4 h6 hP => by
        obtain ⟨M1, a1, a2, a3, a4, a5⟩ := hC Mc 98 dt 0 (by omega) hc h4 h6 (hwb Mc dt)
        have hd := hP.1
        have hP1 : PTc dt j 0 0 none W Me S M1 := PTc_c (by omega) (fun o i g => a5 o i (by omega)) hP
        obtain ⟨M2, b1, b2, b3⟩ := enterB (v := v) hP1 hj6
        refine ⟨M1, M2, a1, a2, b1, by rw [b3 35 5 (by omega)]; exact a2, by rw [b3 35 3 (by omega)]; exact a3, CTx_c (fun o i g => by rw [b3 o i (by omega), a5 o i (by omega)]) hc, b2, fun o i g => ?_⟩
        rw [b3 o i (by omega), a5 o i (by omega)]
      -- the reference up to the sign
      have ref : ∀ (Mr : Mm), RTx len tx Mr → Mr 128 2 = nI p → PTr j 0 0 none W Me S Mr → ∃ M2, b_X12_isHead_2 128 ((1 : Int32), Mr) = some (.inl ((if M2 128 4 = (44 : Int32) then (1 : Int32) else (0 : Int32)), M2)) ∧ M2 128 3 = nI q' ∧ (M2 128 4 = (44 : Int32) ↔ q' < len ∧ tx q' = 44) ∧ (M2 128 4 = (59 : Int32) ↔ q' < len ∧ tx q' = 59) ∧ ((q' < len ∧ (tx q' = 44 ∨ tx q' = 59)) → M2 128 2 = nI (q' + 1)) ∧ PTr (j + 1) 0 0 none (fun i => if i = j then v else W i) Me S M2 ∧ RTx len tx M2 ∧ FrR Mr M2 := fun Mr hr h2 hP => by
        obtain ⟨M1, a1, a2, a3, a4, a5⟩ := hR Mr hr h2
        have h9 : M1 128 9 = nI j := by rw [a5 128 9 (by omega)]; exact hP.1
        generalize hM9 : st2 (st2 M1 130 j (nI v)) 128 9 (nI (j + 1)) = M9
        have f9 : ∀ o i, ¬ ((o = 130 ∧ i = j) ∨ (o = 128 ∧ i = 9)) → M9 o i = M1 o i := fun o i g => by rw [← hM9, s2_at, if_neg (by omega), s2_at, if_neg (by omega)]
        have hr9 : RTx len tx M9 := RTx_c (fun o i g => by rw [f9 o i (by omega), a5 o i (by omega)]) hr
        obtain ⟨M2, b1, b2, b3, b4, b5, b6⟩ := signM hr9 (by rw [f9 128 2 (by omega)]; exact a3) hq'
        refine ⟨M2, ?_, b2, b3, b4, b5, ?_, RTx_c (fun o i g => b6 o i (by omega)) hr9, fun o i g => by rw [b6 o i (by omega), f9 o i (by omega), a5 o i (by omega)]⟩
        · unfold b_X12_isHead_2
          simp only [Lt_eq]
          rw [if_neg one_ne, if_neg (n6 Mr hP), show f_X12_isNumber 128 (1 : Int32) (20 : Int32) Mr = some (1, M1) from a1, Bd_some, if_neg one_ne]
          dsimp only
          have hg : ib (M1 128 9) 6 := by rw [h9]; exact (ib_nI (by omega)).mpr hj6
          rw [Gd_t hg, h9, ix_nI (by omega), a2, s2_ne (show 128 ≠ 130 by omega), h9, nI_1, hM9, b1, Bd_some]
        · obtain ⟨d1, d2, d3, d4, d5, d6, d7⟩ := hP
          refine ⟨by rw [b6 128 9 (by omega), ← hM9, s2_eq], by rw [b6 128 10 (by omega), f9 128 10 (by omega), a5 128 10 (by omega)]; exact d2, by rw [b6 128 11 (by omega), f9 128 11 (by omega), a5 128 11 (by omega)]; exact d3, by rw [b6 128 12 (by omega), f9 128 12 (by omega), a5 128 12 (by omega)]; exact d4, fun i hi => ?_, fun i hi => absurd hi (by omega), fun i hi => absurd hi (by omega)⟩
          show M2 130 i = nI (if i = j then v else W i)
          rw [b6 130 i (by omega)]
          by_cases c : i = j
          · rw [← hM9, s2_ne (by omega), if_pos c, c, s2_eq]
          · rw [f9 130 i (by omega), a5 130 i (by omega), if_neg c]
            exact d5 i (by omega)
      have hW' : ∀ i, i < j + 1 → (if i = j then v else W i) < 32 := fun i hi => by
        by_cases c : i = j
        · rw [if_pos c]; omega
        · rw [if_neg c]; exact hW i (by omega)
      have hFC : ∀ {dt : Nat} {A B D : Mm}, FrC dt A B → FrC dt B D → FrC dt A D := fun h1 h2 o i g => (h2 o i g).trans (h1 o i g)
      have hFS : ∀ {dt : Nat} {A B D : Mm}, FrS dt A B → FrS dt B D → FrS dt A D := fun h1 h2 o i g => (h2 o i g).trans (h1 o i g)
      have hFR : ∀ {A B D : Mm}, FrR A B → FrR B D → FrR A D := fun h1 h2 o i g => (h2 o i g).trans (h1 o i g)
      by_cases cm : q' < len ∧ tx q' = 44 ∧ j + 1 < 6
      · -- one more number
        have hrec := ih (j + 1) (q' + 1) (fun i => if i = j then v else W i) (by omega) (by omega) (by omega) hW'
        have stepC : ∀ (Mc : Mm) (dt : Nat), CTx len tx Mc → Mc 35 3 = nI p → Mc 35 5 = 0 → PTc dt j 0 0 none W Me S Mc → ∃ M3, b_X7_readClause_47 35 dt (nI 98) (nI 6) ((1 : Int32), nI (j + 1), Mc) = some (.inl ((1 : Int32), nI (j + 1 + 1), M3)) ∧ CTx len tx M3 ∧ M3 35 3 = nI (q' + 1) ∧ M3 35 5 = 0 ∧ PTc dt (j + 1) 0 0 none (fun i => if i = j then v else W i) Me S M3 ∧ FrS dt Mc M3 := fun Mc dt hc h4 h6 hP => by
          obtain ⟨M1, M2, a1, a2, a3, a4, a5, a6, a7, a8⟩ := cls Mc dt hc h4 h6 hP
          obtain ⟨M3, g1, g2, g3⟩ := (goesOnC (wd := 98) (told := j + 1) a6 a5 hq' (by omega) (by omega)).1 ⟨cm.1, cm.2.1, by rw [hmw]; exact cm.2.2⟩
          have hd := hP.1
          exact ⟨M3, rc_step (by rw [hmw]; omega) a1 a2 a3 a4 g1 (Or.inr rfl), CTx_c (fun o i g => g3 o i (by omega)) a6, g2, by rw [g3 35 5 (by omega)]; exact a4, PTc_c (by omega) (fun o i g => g3 o i (by omega)) a7, hFS a8 (fun o i g => g3 o i (by omega))⟩
        have stepR : ∀ (Mr : Mm), RTx len tx Mr → Mr 128 2 = nI p → PTr j 0 0 none W Me S Mr → ∃ M2, b_X12_isHead_2 128 ((1 : Int32), Mr) = some (.inl ((1 : Int32), M2)) ∧ M2 128 2 = nI (q' + 1) ∧ PTr (j + 1) 0 0 none (fun i => if i = j then v else W i) Me S M2 ∧ RTx len tx M2 ∧ FrR Mr M2 := fun Mr hr h2 hP => by
          obtain ⟨M2, b1, b2, b3, b4, b5, b6, b7, b8⟩ := ref Mr hr h2 hP
          rw [if_pos (b3.mpr ⟨cm.1, cm.2.1⟩)] at b1
          exact ⟨M2, b1, b5 ⟨cm.1, Or.inl cm.2.1⟩, b6, b7, b8⟩
        rcases hrec with ⟨fl, pos, w1, w2, w3, w4⟩ | ⟨n, p', W', w1, w2, w3, w4, w5, w6, w7⟩
        · refine Or.inl ⟨fl, pos, w1, w2, fun Mc dt f hc h4 h6 hP hf => ?_, fun Mr f hr h2 hP hf => ?_⟩
          · obtain ⟨M3, s1, s2', s3, s4, s5, s6⟩ := stepC Mc dt hc h4 h6 hP
            obtain ⟨f', rfl⟩ : ∃ f', f = f' + 1 := ⟨f - 1, by omega⟩
            obtain ⟨M', k1, k2, k3, k4⟩ := w3 M3 dt f' s2' s3 s4 s5 (by omega)
            exact ⟨M', by rw [Lp_s s1]; exact k1, k2, k3, hFC (FsC s6) k4⟩
          · obtain ⟨M2, s1, s2', s3, s4, s5⟩ := stepR Mr hr h2 hP
            obtain ⟨f', rfl⟩ : ∃ f', f = f' + 1 := ⟨f - 1, by omega⟩
            obtain ⟨M', k1, k2, k3, k4⟩ := w4 M2 f' s4 s2' s3 (by omega)
            exact ⟨M', by rw [Lp_s s1]; exact k1, k2, k3, hFR s5 k4⟩
        · refine Or.inr ⟨n, p', W', w1, w2, by omega, w4, w5, fun Mc dt f hc h4 h6 hP hf => ?_, fun Mr f hr h2 hP hf => ?_⟩
          · obtain ⟨M3, s1, s2', s3, s4, s5, s6⟩ := stepC Mc dt hc h4 h6 hP
            obtain ⟨f', rfl⟩ : ∃ f', f = f' + 1 := ⟨f - 1, by omega⟩
            obtain ⟨M', k1, k2, k3, k4, k5⟩ := w6 M3 dt f' s2' s3 s4 s5 (by omega)
            exact ⟨M', by rw [Lp_s s1]; exact k1, k2, k3, k4, hFS s6 k5⟩
          · obtain ⟨M2, s1, s2', s3, s4, s5⟩ := stepR Mr hr h2 hP
            obtain ⟨f', rfl⟩ : ∃ f', f = f' + 1 := ⟨f - 1, by omega⟩
            obtain ⟨M', k1, k2, k3, k4⟩ := w7 M2 f' s4 s2' s3 (by omega)
            exact ⟨M', by rw [Lp_s s1]; exact k1, k2, k3, hFR s5 k4⟩
      · by_cases ce : q' < len ∧ tx q' = 59 ∧ 3 ≤ j + 1
        · -- the clause ends
          refine Or.inr ⟨j + 1, q' + 1, fun i => if i = j then v else W i, ce.2.2, by omega, by omega, by omega, hW', fun Mc dt f hc h4 h6 hP hf => ?_, fun Mr f hr h2 hP hf => ?_⟩
          · obtain ⟨M1, M2, a1, a2, a3, a4, a5, a6, a7, a8⟩ := cls Mc dt hc h4 h6 hP
            obtain ⟨M3, g1, g2, g3⟩ := (goesOnC (wd := 98) (told := j + 1) a6 a5 hq' (by omega) (by omega)).2.1 ⟨ce.1, ce.2.1, by rw [hfw]; exact ce.2.2⟩
            have hd := hP.1
            obtain ⟨f', rfl⟩ : ∃ f', f = f' + 2 := ⟨f - 2, by omega⟩
            refine ⟨M3, ?_, by rw [g3 35 5 (by omega)]; exact a4, g2, PTc_c (by omega) (fun o i g => g3 o i (by omega)) a7, hFS a8 (fun o i g => g3 o i (by omega))⟩
            have s1 := rc_step (wd := 98) (by rw [hmw]; omega) a1 a2 a3 a4 g1 (Or.inl rfl)
            rw [hmw] at s1
            have s2' := rc_end (dt := dt) (wd := 98) (x := j + 1 + 1) (M := M3)
            rw [hmw] at s2'
            rw [Lp_s s1, Lp_e s2']
          · obtain ⟨M2, b1, b2, b3, b4, b5, b6, b7, b8⟩ := ref Mr hr h2 hP
            rw [if_neg (fun z => by have := (b3.mp z).2; omega)] at b1
            obtain ⟨f', rfl⟩ : ∃ f', f = f' + 2 := ⟨f - 2, by omega⟩
            have s2' : b_X12_isHead_2 128 ((0 : Int32), M2) = some (.inr (.inr M2)) := by unfold b_X12_isHead_2; rw [if_pos rfl]
            refine ⟨M2, ?_, b5 ⟨ce.1, Or.inr ce.2.1⟩, b6, b8⟩
            rw [Lp_s b1, Lp_e s2', BdS_inr]
            unfold hdT
            rw [if_pos (b4.mpr ⟨ce.1, ce.2.1⟩), if_pos (show (2 : Int32) < M2 128 9 by rw [b6.1]; exact nI_lt (a := 2) (by omega) (by omega))]
        · -- misplaced
          refine Or.inl ⟨1, q', Or.inl rfl, hq'l, fun Mc dt f hc h4 h6 hP hf => ?_, fun Mr f hr h2 hP hf => ?_⟩
          · obtain ⟨M1, M2, a1, a2, a3, a4, a5, a6, a7, a8⟩ := cls Mc dt hc h4 h6 hP
            obtain ⟨M3, g1, g2, g3, g4⟩ := (goesOnC (wd := 98) (told := j + 1) a6 a5 hq' (by omega) (by omega)).2.2 ⟨by rw [hmw]; exact cm, by rw [hfw]; exact ce⟩
            have hd := hP.1
            obtain ⟨f', rfl⟩ : ∃ f', f = f' + 2 := ⟨f - 2, by omega⟩
            refine ⟨M3, ?_, g2, g3, hFC (FsC a8) (fun o i g => g4 o i (by omega))⟩
            have s1 := rc_step (wd := 98) (by rw [hmw]; omega) a1 a2 a3 a4 g1 (Or.inl rfl)
            rw [hmw] at s1
            have s2' := rc_end (dt := dt) (wd := 98) (x := j + 1 + 1) (M := M3)
            rw [hmw] at s2'
            rw [Lp_s s1, Lp_e s2']
          · obtain ⟨M2, b1, b2, b3, b4, b5, b6, b7, b8⟩ := ref Mr hr h2 hP
            obtain ⟨f', rfl⟩ : ∃ f', f = f' + 2 := ⟨f - 2, by omega⟩
            have hres : BdS (Lp (b_X12_isHead_2 128) (f' + 2) ((1 : Int32), Mr)) hdT = some (0, st2 (st2 M2 128 7 (M2 128 3)) 128 8 (1 : Int32)) := by
              by_cases c44 : M2 128 4 = (44 : Int32)
              · rw [if_pos c44] at b1
                have hx := b3.mp c44
                have h6 : M2 128 9 = (6 : Int32) := by rw [b6.1, show j + 1 = 6 by omega]; rfl
                have s2' : b_X12_isHead_2 128 ((1 : Int32), M2) = some (.inr (.inl ((0 : Int32), st2 (st2 M2 128 7 (M2 128 3)) 128 8 (1 : Int32)))) := by
                  unfold b_X12_isHead_2
                  rw [if_neg one_ne, if_pos h6, failsR, Bd_some]
                  dsimp only
                  rw [Gd_t (Or.inl rfl)]
                rw [Lp_s b1, Lp_e s2', BdS_inl]
              · rw [if_neg c44] at b1
                have s2' : b_X12_isHead_2 128 ((0 : Int32), M2) = some (.inr (.inr M2)) := by unfold b_X12_isHead_2; rw [if_pos rfl]
                rw [Lp_s b1, Lp_e s2', BdS_inr]
                unfold hdT
                rw [failsR]
                simp only [Bd_some]
                by_cases c59 : M2 128 4 = (59 : Int32)
                · have hx := b4.mp c59
                  rw [if_pos c59, if_neg (show ¬ (2 : Int32) < M2 128 9 by rw [b6.1]; exact nI_nlt (a := 2) (by omega) (by omega)), if_pos trivial]
                · rw [if_neg c59, if_pos trivial]
            exact ⟨_, hres, by rw [s2_nk (by omega), s2_eq]; exact b2, by rw [s2_eq]; rfl, hFR b8 (fun o i g => by rw [s2_at, if_neg (by omega), s2_at, if_neg (by omega)])⟩
