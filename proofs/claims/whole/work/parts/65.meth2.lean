/-- the numbers of clause m -/
theorem methL {len n ns : Nat} {cl : Option Nat} {tx W S : Nat → Nat} (hn3 : 3 ≤ n) (hn6 : n ≤ 6) (hlen : len ≤ 240) (htx : ∀ i, i < len → tx i < 256) : ∀ (d j p : Nat) (Me : Nat → Nat), j + d = 12 → 0 < d → p ≤ len → (∀ i, i < j → Me i < 2 ^ n ∧ isC n (Me i) = true) → (∃ fl pos, (0 < fl ∧ fl ≤ 4) ∧ pos ≤ len ∧ (∀ (Mc : Mm) (dt f : Nat), CTx len tx Mc → Mc 35 3 = nI p → Mc 35 5 = 0 → PTc dt n j ns cl W Me S Mc → 20 ≤ f + j → ∃ M', Lp (b_X7_readClause_47 35 dt (nI 109) (nI 12)) f ((1 : Int32), nI (j + 1), Mc) = some M' ∧ M' 35 5 = nI fl ∧ M' 35 1 = nI pos ∧ FrC dt Mc M') ∧ (∀ (Mr : Mm) (f : Nat), RTx len tx Mr → Mr 128 2 = nI p → PTr n j ns cl W Me S Mr → 20 ≤ f + j → ∃ M', BdS (Lp (b_X12_isMethod_15 128) f ((1 : Int32), Mr)) mtT = some (0, M') ∧ M' 128 7 = nI pos ∧ M' 128 8 = nI fl ∧ FrR Mr M')) ∨ (∃ k p' Me', 1 ≤ k ∧ k ≤ 12 ∧ p < p' ∧ p' ≤ len ∧ (∀ i, i < k → Me' i < 2 ^ n ∧ isC n (Me' i) = true) ∧ (∀ (Mc : Mm) (dt f : Nat), CTx len tx Mc → Mc 35 3 = nI p → Mc 35 5 = 0 → PTc dt n j ns cl W Me S Mc → 20 ≤ f + j → ∃ M', Lp (b_X7_readClause_47 35 dt (nI 109) (nI 12)) f ((1 : Int32), nI (j + 1), Mc) = some M' ∧ M' 35 5 = 0 ∧ M' 35 3 = nI p' ∧ PTc dt n k ns cl W Me' S M' ∧ FrS dt Mc M') ∧ (∀ (Mr : Mm) (f : Nat), RTx len tx Mr → Mr 128 2 = nI p → PTr n j ns cl W Me S Mr → 20 ≤ f + j → ∃ M', BdS (Lp (b_X12_isMethod_15 128) f ((1 : Int32), Mr)) mtT = some (1, M') ∧ M' 128 2 = nI p' ∧ PTr n k ns cl W Me' S M' ∧ FrR Mr M')) := by
  intro d
  induction d with
  | zero => intro j p Me _ h0; exact absurd h0 (by omega)
  | succ d ih =>
    intro j p Me hj _ hp hW
    have hj6 : j < 12 := by omega
    have hmw : mostW 109 = 12 := rfl
    have hfw : fewW 109 = 1 := rfl
    have h64 := pow_ns hn6
    have hpw : 0 < 2 ^ n := Nat.pow_pos (by omega)
    obtain ⟨q, q1, q2, hnum⟩ := num_cases (lo := 0) (hi := 2 ^ n - 1) hlen htx hp (by omega) (by omega)
    have hwb : ∀ (M : Mm) (dt : Nat), PTc dt n j ns cl W Me S M → WBd 109 dt n 0 (2 ^ n - 1) M := fun M dt hP => Or.inr ⟨by omega, by omega, rfl, rfl, hP.1, hP.2.1, hn6⟩
    have n6 : ∀ Mr : Mm, PTr n j ns cl W Me S Mr → ¬ Mr 128 10 = (12 : Int32) := fun Mr h => by rw [h.2.1]; exact fun z => by have := nI_inj (b := 12) (by omega) (by omega) z; omega
    rcases hnum with ⟨fl, hfl, hC, hR⟩ | ⟨v, e, ve, el, v1, v2, hC, hR⟩
    · refine Or.inl ⟨fl, q, by omega, q2, fun Mc dt f hc h4 h6 hP hf => ?_, fun Mr f hr h2 hP hf => ?_⟩
      · obtain ⟨M', k1, k2, k3, k4⟩ := rc_fail (wd := 109) (told := j + 1) (f := f) hfl (by rw [hmw]; omega) (hC Mc 109 dt n (by omega) hc h4 h6 (hwb Mc dt hP)) (by omega)
        exact ⟨M', k1, k2, k3, fun o i g => k4 o i (fun z => g (Or.inl z))⟩
      · obtain ⟨M', k1, k2, k3, k4⟩ := hR Mr hr h2
        obtain ⟨f', rfl⟩ : ∃ f', f = f' + 1 := ⟨f - 1, by omega⟩
        have s1 : b_X12_isMethod_15 128 ((1 : Int32), Mr) = some (.inr (.inl ((0 : Int32), M'))) := by
          unfold b_X12_isMethod_15
          rw [if_neg one_ne, if_neg (n6 Mr hP), (partR (v := 0) hn6 hP.1).1 M' k1, Bd_some, if_pos rfl]
        refine ⟨M', by rw [Lp_e s1, BdS_inl], k2, k3, fun o i g => k4 o i (by omega)⟩
    · have hvn : v < 2 ^ n := by omega
      by_cases hcv : isC n v = true
      case neg =>
        have hcf : isC n v = false := by simpa using hcv
        refine Or.inl ⟨4, q, by omega, q2, fun Mc dt f hc h4 h6 hP hf => ?_, fun Mr f hr h2 hP hf => ?_⟩
        · obtain ⟨M1, a1, a2, a3, a4, a5⟩ := hC Mc 109 dt n (by omega) hc h4 h6 (hwb Mc dt hP)
          have hd := hP.1
          have hP1 : PTc dt n j ns cl W Me S M1 := PTc_c (by omega) (fun o i g => a5 o i (by omega)) hP
          have hod := rc_odd (wd := 109) (told := j + 1) (f := f) (by rw [hmw]; omega) a1 a2 ((enterM (v := v) hP1 hn6 hj6 hvn).2 hcf) a4 (by omega)
          rw [hmw] at hod
          exact ⟨_, hod, by rw [s2_nk (by omega), s2_eq]; rfl, by rw [s2_eq], fun o i g => by rw [s2_at, if_neg (by omega), s2_at, if_neg (by omega), a5 o i (by omega)]⟩
        · obtain ⟨M1, a1, a2, a3, a4, a5⟩ := hR Mr hr h2
          obtain ⟨f', rfl⟩ : ∃ f', f = f' + 1 := ⟨f - 1, by omega⟩
          have s1 : b_X12_isMethod_15 128 ((1 : Int32), Mr) = some (.inr (.inl ((0 : Int32), st2 (st2 M1 128 7 (M1 128 3)) 128 8 (4 : Int32)))) := by
            unfold b_X12_isMethod_15
            rw [if_neg one_ne, if_neg (n6 Mr hP), (partR (v := v) hn6 hP.1).2 M1 a1 a2 (by rw [a5 128 9 (by omega)]; exact hP.1) hvn, if_neg hcv, Bd_some, if_pos rfl]
          exact ⟨_, by rw [Lp_e s1, BdS_inl], by rw [s2_nk (by omega), s2_eq]; exact a4, by rw [s2_eq]; rfl, fun o i g => by rw [s2_at, if_neg (by omega), s2_at, if_neg (by omega), a5 o i (by omega)]⟩
      obtain ⟨q', hq'⟩ := skp_ex (tx := tx) el
      have hq'l := hq'.2.1
      have hq'1 := hq'.1
      -- the class up to the sign
      have cls : ∀ (Mc : Mm) (dt : Nat), CTx len tx Mc → Mc 35 3 = nI p → Mc 35 5 = 0 → PTc dt n j ns cl W Me S Mc → ∃ M1 M2, f_X7_readNumber 35 (nI 109) dt Mc = some (nI v, M1) ∧ M1 35 5 = 0 ∧ f_X7_enter (nI 109) (nI v) dt M1 = some (1, M2) ∧ M2 35 5 = 0 ∧ M2 35 3 = nI e ∧ CTx len tx M2 ∧ PTc dt n (j + 1) ns cl W (fun i => if i = j then v else Me i) S M2 ∧ FrS dt Mc M2 := fun Mc dt hc h4 h6 hP => by
        obtain ⟨M1, a1, a2, a3, a4, a5⟩ := hC Mc 109 dt n (by omega) hc h4 h6 (hwb Mc dt hP)
        have hd := hP.1
        have hP1 : PTc dt n j ns cl W Me S M1 := PTc_c (by omega) (fun o i g => a5 o i (by omega)) hP
        obtain ⟨M2, b1, b2, b3⟩ := (enterM (v := v) hP1 hn6 hj6 hvn).1 hcv
        refine ⟨M1, M2, a1, a2, b1, by rw [b3 35 5 (by omega)]; exact a2, by rw [b3 35 3 (by omega)]; exact a3, CTx_c (fun o i g => by rw [b3 o i (by omega), a5 o i (by omega)]) hc, b2, fun o i g => ?_⟩
        rw [b3 o i (by omega), a5 o i (by omega)]
      -- the reference up to the sign
      have ref : ∀ (Mr : Mm), RTx len tx Mr → Mr 128 2 = nI p → PTr n j ns cl W Me S Mr → ∃ M2, b_X12_isMethod_15 128 ((1 : Int32), Mr) = some (.inl ((if M2 128 4 = (44 : Int32) then (1 : Int32) else (0 : Int32)), M2)) ∧ M2 128 3 = nI q' ∧ (M2 128 4 = (44 : Int32) ↔ q' < len ∧ tx q' = 44) ∧ (M2 128 4 = (59 : Int32) ↔ q' < len ∧ tx q' = 59) ∧ ((q' < len ∧ (tx q' = 44 ∨ tx q' = 59)) → M2 128 2 = nI (q' + 1)) ∧ PTr n (j + 1) ns cl W (fun i => if i = j then v else Me i) S M2 ∧ RTx len tx M2 ∧ FrR Mr M2 := fun Mr hr h2 hP => by
        obtain ⟨M1, a1, a2, a3, a4, a5⟩ := hR Mr hr h2
        have h9 : M1 128 10 = nI j := by rw [a5 128 10 (by omega)]; exact hP.2.1
        generalize hM9 : st2 (st2 M1 131 j (nI v)) 128 10 (nI (j + 1)) = M9
        have f9 : ∀ o i, ¬ ((o = 131 ∧ i = j) ∨ (o = 128 ∧ i = 10)) → M9 o i = M1 o i := fun o i g => by rw [← hM9, s2_at, if_neg (by omega), s2_at, if_neg (by omega)]
        have hr9 : RTx len tx M9 := RTx_c (fun o i g => by rw [f9 o i (by omega), a5 o i (by omega)]) hr
        obtain ⟨M2, b1, b2, b3, b4, b5, b6⟩ := signM hr9 (by rw [f9 128 2 (by omega)]; exact a3) hq'
        refine ⟨M2, ?_, b2, b3, b4, b5, ?_, RTx_c (fun o i g => b6 o i (by omega)) hr9, fun o i g => by rw [b6 o i (by omega), f9 o i (by omega), a5 o i (by omega)]⟩
        · unfold b_X12_isMethod_15
          simp only [Lt_eq]
          rw [if_neg one_ne, if_neg (n6 Mr hP), (partR (v := v) hn6 hP.1).2 M1 a1 a2 (by rw [a5 128 9 (by omega)]; exact hP.1) hvn, if_pos hcv, Bd_some, if_neg one_ne]
          dsimp only
          have hg : ib (M1 128 10) 12 := by rw [h9]; exact (ib_nI (by omega)).mpr hj6
          rw [Gd_t hg, h9, ix_nI (by omega), a2, s2_ne (show 128 ≠ 131 by omega), h9, nI_1, hM9, b1, Bd_some]
        · obtain ⟨d1, d2, d3, d4, d5, d6, d7⟩ := hP
          refine ⟨by rw [b6 128 9 (by omega), f9 128 9 (by omega), a5 128 9 (by omega)]; exact d1, by rw [b6 128 10 (by omega), ← hM9, s2_eq], by rw [b6 128 11 (by omega), f9 128 11 (by omega), a5 128 11 (by omega)]; exact d3, by rw [b6 128 12 (by omega), f9 128 12 (by omega), a5 128 12 (by omega)]; exact d4, fun i hi => by rw [b6 130 i (by omega), f9 130 i (by omega), a5 130 i (by omega)]; exact d5 i hi, fun i hi => ?_, fun i hi => by rw [b6 132 i (by omega), f9 132 i (by omega), a5 132 i (by omega)]; exact d7 i hi⟩
          show M2 131 i = nI (if i = j then v else Me i)
          rw [b6 131 i (by omega)]
          by_cases c : i = j
          · rw [← hM9, s2_ne (by omega), if_pos c, c, s2_eq]
          · rw [f9 131 i (by omega), a5 131 i (by omega), if_neg c]
            exact d6 i (by omega)
      have hW' : ∀ i, i < j + 1 → (if i = j then v else Me i) < 2 ^ n ∧ isC n (if i = j then v else Me i) = true := fun i hi => by
        by_cases c : i = j
        · rw [if_pos c]; exact ⟨hvn, hcv⟩
        · rw [if_neg c]; exact hW i (by omega)
      have hFC : ∀ {dt : Nat} {A B D : Mm}, FrC dt A B → FrC dt B D → FrC dt A D := fun h1 h2 o i g => (h2 o i g).trans (h1 o i g)
      have hFS : ∀ {dt : Nat} {A B D : Mm}, FrS dt A B → FrS dt B D → FrS dt A D := fun h1 h2 o i g => (h2 o i g).trans (h1 o i g)
      have hFR : ∀ {A B D : Mm}, FrR A B → FrR B D → FrR A D := fun h1 h2 o i g => (h2 o i g).trans (h1 o i g)
      by_cases cm : q' < len ∧ tx q' = 44 ∧ j + 1 < 12
      · -- one more number
        have hrec := ih (j + 1) (q' + 1) (fun i => if i = j then v else Me i) (by omega) (by omega) (by omega) hW'
        have stepC : ∀ (Mc : Mm) (dt : Nat), CTx len tx Mc → Mc 35 3 = nI p → Mc 35 5 = 0 → PTc dt n j ns cl W Me S Mc → ∃ M3, b_X7_readClause_47 35 dt (nI 109) (nI 12) ((1 : Int32), nI (j + 1), Mc) = some (.inl ((1 : Int32), nI (j + 1 + 1), M3)) ∧ CTx len tx M3 ∧ M3 35 3 = nI (q' + 1) ∧ M3 35 5 = 0 ∧ PTc dt n (j + 1) ns cl W (fun i => if i = j then v else Me i) S M3 ∧ FrS dt Mc M3 := fun Mc dt hc h4 h6 hP => by
          obtain ⟨M1, M2, a1, a2, a3, a4, a5, a6, a7, a8⟩ := cls Mc dt hc h4 h6 hP
          obtain ⟨M3, g1, g2, g3⟩ := (goesOnC (wd := 109) (told := j + 1) a6 a5 hq' (by omega) (by omega)).1 ⟨cm.1, cm.2.1, by rw [hmw]; exact cm.2.2⟩
          have hd := hP.1
          exact ⟨M3, rc_step (by rw [hmw]; omega) a1 a2 a3 a4 g1 (Or.inr rfl), CTx_c (fun o i g => g3 o i (by omega)) a6, g2, by rw [g3 35 5 (by omega)]; exact a4, PTc_c (by omega) (fun o i g => g3 o i (by omega)) a7, hFS a8 (fun o i g => g3 o i (by omega))⟩
        have stepR : ∀ (Mr : Mm), RTx len tx Mr → Mr 128 2 = nI p → PTr n j ns cl W Me S Mr → ∃ M2, b_X12_isMethod_15 128 ((1 : Int32), Mr) = some (.inl ((1 : Int32), M2)) ∧ M2 128 2 = nI (q' + 1) ∧ PTr n (j + 1) ns cl W (fun i => if i = j then v else Me i) S M2 ∧ RTx len tx M2 ∧ FrR Mr M2 := fun Mr hr h2 hP => by
          obtain ⟨M2, b1, b2, b3, b4, b5, b6, b7, b8⟩ := ref Mr hr h2 hP
          rw [if_pos (b3.mpr ⟨cm.1, cm.2.1⟩)] at b1
          exact ⟨M2, b1, b5 ⟨cm.1, Or.inl cm.2.1⟩, b6, b7, b8⟩
        rcases hrec with ⟨fl, pos, w1, w2, w3, w4⟩ | ⟨kk, p', Me', w1, w2, w3, w4, w5, w6, w7⟩
        · refine Or.inl ⟨fl, pos, w1, w2, fun Mc dt f hc h4 h6 hP hf => ?_, fun Mr f hr h2 hP hf => ?_⟩
          · obtain ⟨M3, s1, s2', s3, s4, s5, s6⟩ := stepC Mc dt hc h4 h6 hP
            obtain ⟨f', rfl⟩ : ∃ f', f = f' + 1 := ⟨f - 1, by omega⟩
            obtain ⟨M', k1, k2, k3, k4⟩ := w3 M3 dt f' s2' s3 s4 s5 (by omega)
            exact ⟨M', by rw [Lp_s s1]; exact k1, k2, k3, hFC (FsC s6) k4⟩
          · obtain ⟨M2, s1, s2', s3, s4, s5⟩ := stepR Mr hr h2 hP
            obtain ⟨f', rfl⟩ : ∃ f', f = f' + 1 := ⟨f - 1, by omega⟩
            obtain ⟨M', k1, k2, k3, k4⟩ := w4 M2 f' s4 s2' s3 (by omega)
            exact ⟨M', by rw [Lp_s s1]; exact k1, k2, k3, hFR s5 k4⟩
        · refine Or.inr ⟨kk, p', Me', w1, w2, by omega, w4, w5, fun Mc dt f hc h4 h6 hP hf => ?_, fun Mr f hr h2 hP hf => ?_⟩
          · obtain ⟨M3, s1, s2', s3, s4, s5, s6⟩ := stepC Mc dt hc h4 h6 hP
            obtain ⟨f', rfl⟩ : ∃ f', f = f' + 1 := ⟨f - 1, by omega⟩
            obtain ⟨M', k1, k2, k3, k4, k5⟩ := w6 M3 dt f' s2' s3 s4 s5 (by omega)
            exact ⟨M', by rw [Lp_s s1]; exact k1, k2, k3, k4, hFS s6 k5⟩
          · obtain ⟨M2, s1, s2', s3, s4, s5⟩ := stepR Mr hr h2 hP
            obtain ⟨f', rfl⟩ : ∃ f', f = f' + 1 := ⟨f - 1, by omega⟩
            obtain ⟨M', k1, k2, k3, k4⟩ := w7 M2 f' s4 s2' s3 (by omega)
            exact ⟨M', by rw [Lp_s s1]; exact k1, k2, k3, hFR s5 k4⟩
      · by_cases ce : q' < len ∧ tx q' = 59 ∧ 1 ≤ j + 1
        · -- the clause ends
          refine Or.inr ⟨j + 1, q' + 1, fun i => if i = j then v else Me i, ce.2.2, by omega, by omega, by omega, hW', fun Mc dt f hc h4 h6 hP hf => ?_, fun Mr f hr h2 hP hf => ?_⟩
          · obtain ⟨M1, M2, a1, a2, a3, a4, a5, a6, a7, a8⟩ := cls Mc dt hc h4 h6 hP
            obtain ⟨M3, g1, g2, g3⟩ := (goesOnC (wd := 109) (told := j + 1) a6 a5 hq' (by omega) (by omega)).2.1 ⟨ce.1, ce.2.1, by rw [hfw]; exact ce.2.2⟩
            have hd := hP.1
            obtain ⟨f', rfl⟩ : ∃ f', f = f' + 2 := ⟨f - 2, by omega⟩
            refine ⟨M3, ?_, by rw [g3 35 5 (by omega)]; exact a4, g2, PTc_c (by omega) (fun o i g => g3 o i (by omega)) a7, hFS a8 (fun o i g => g3 o i (by omega))⟩
            have s1 := rc_step (wd := 109) (by rw [hmw]; omega) a1 a2 a3 a4 g1 (Or.inl rfl)
            rw [hmw] at s1
            have s2' := rc_end (dt := dt) (wd := 109) (x := j + 1 + 1) (M := M3)
            rw [hmw] at s2'
            rw [Lp_s s1, Lp_e s2']
          · obtain ⟨M2, b1, b2, b3, b4, b5, b6, b7, b8⟩ := ref Mr hr h2 hP
            rw [if_neg (fun z => by have := (b3.mp z).2; omega)] at b1
            obtain ⟨f', rfl⟩ : ∃ f', f = f' + 2 := ⟨f - 2, by omega⟩
            have s2' : b_X12_isMethod_15 128 ((0 : Int32), M2) = some (.inr (.inr M2)) := by unfold b_X12_isMethod_15; rw [if_pos rfl]
            refine ⟨M2, ?_, b5 ⟨ce.1, Or.inr ce.2.1⟩, b6, b8⟩
            rw [Lp_s b1, Lp_e s2', BdS_inr]
            unfold mtT
            rw [if_pos (b4.mpr ⟨ce.1, ce.2.1⟩)]
        · -- misplaced
          refine Or.inl ⟨1, q', by omega, hq'l, fun Mc dt f hc h4 h6 hP hf => ?_, fun Mr f hr h2 hP hf => ?_⟩
          · obtain ⟨M1, M2, a1, a2, a3, a4, a5, a6, a7, a8⟩ := cls Mc dt hc h4 h6 hP
            obtain ⟨M3, g1, g2, g3, g4⟩ := (goesOnC (wd := 109) (told := j + 1) a6 a5 hq' (by omega) (by omega)).2.2 ⟨by rw [hmw]; exact cm, by rw [hfw]; exact ce⟩
            have hd := hP.1
            obtain ⟨f', rfl⟩ : ∃ f', f = f' + 2 := ⟨f - 2, by omega⟩
            refine ⟨M3, ?_, g2, g3, hFC (FsC a8) (fun o i g => g4 o i (by omega))⟩
            have s1 := rc_step (wd := 109) (by rw [hmw]; omega) a1 a2 a3 a4 g1 (Or.inl rfl)
            rw [hmw] at s1
            have s2' := rc_end (dt := dt) (wd := 109) (x := j + 1 + 1) (M := M3)
            rw [hmw] at s2'
            rw [Lp_s s1, Lp_e s2']
          · obtain ⟨M2, b1, b2, b3, b4, b5, b6, b7, b8⟩ := ref Mr hr h2 hP
            obtain ⟨f', rfl⟩ : ∃ f', f = f' + 2 := ⟨f - 2, by omega⟩
            have hres : BdS (Lp (b_X12_isMethod_15 128) (f' + 2) ((1 : Int32), Mr)) mtT = some (0, st2 (st2 M2 128 7 (M2 128 3)) 128 8 (1 : Int32)) := by
              by_cases c44 : M2 128 4 = (44 : Int32)
              · rw [if_pos c44] at b1
                have hx := b3.mp c44
                have h6 : M2 128 10 = (12 : Int32) := by rw [b6.2.1, show j + 1 = 12 by omega]; rfl
                have s2' : b_X12_isMethod_15 128 ((1 : Int32), M2) = some (.inr (.inl ((0 : Int32), st2 (st2 M2 128 7 (M2 128 3)) 128 8 (1 : Int32)))) := by
                  unfold b_X12_isMethod_15
                  rw [if_neg one_ne, if_pos h6, failsR, Bd_some]
                  dsimp only
                  rw [Gd_t (Or.inl rfl)]
                rw [Lp_s b1, Lp_e s2', BdS_inl]
              · rw [if_neg c44] at b1
                have s2' : b_X12_isMethod_15 128 ((0 : Int32), M2) = some (.inr (.inr M2)) := by unfold b_X12_isMethod_15; rw [if_pos rfl]
                rw [Lp_s b1, Lp_e s2', BdS_inr]
                unfold mtT
                rw [failsR]
                simp only [Bd_some]
                rw [if_neg (fun z => ce ⟨(b4.mp z).1, (b4.mp z).2, by omega⟩), if_pos trivial]
            exact ⟨_, hres, by rw [s2_nk (by omega), s2_eq]; exact b2, by rw [s2_eq]; rfl, hFR b8 (fun o i g => by rw [s2_at, if_neg (by omega), s2_at, if_neg (by omega)])⟩
