/-! clause c -/
theorem enterC {dt n k ns v : Nat} {W Me S : Nat → Nat} {M : Mm} (h : PTc dt n k ns none W Me S M) (hk : k ≤ 12) (hn : n ≤ 6) (hv : v < 2 ^ n) : (isC n v = true → ∃ M', f_X7_enter (nI 99) (nI v) dt M = some (1, M') ∧ PTc dt n k ns (some v) W Me S M' ∧ ∀ o i, ¬ ((o = dt ∧ i = 3) ∨ o = dt + 1) → M' o i = M o i) ∧ (isC n v = false → f_X7_enter (nI 99) (nI v) dt M = some (0, st2 M dt 3 (1 : Int32))) := by
  obtain ⟨c0, c2, c3, c4, c5, c6, c7, c8, c9⟩ := h
  have hadd : f_X7_enter (nI 99) (nI v) dt M = Bd (Bd (f_X0_become (dt + 1) (nI v) (nI n) (st2 M dt 3 (1 : Int32))) (fun r2 => Gd (zb r2.1) (some (r2.1, r2.2)))) (fun r12 => Gd (zb r12.1) (some (r12.1, r12.2))) := by
    unfold f_X7_enter f_X9_tellCall
    simp only [Lt_eq]
    rw [if_neg (show ¬ nI 99 = (98 : Int32) by decide), if_neg (show ¬ nI 99 = (109 : Int32) by decide), if_neg (show ¬ nI 99 = (114 : Int32) by decide), s2_nk (show 0 ≠ 3 by omega), c2]
  refine ⟨fun hc => ?_, fun hc => ?_⟩
  · obtain ⟨M1, g1, g2, g3⟩ := become_1 (o := dt + 1) (M := st2 M dt 3 (1 : Int32)) (show n < 7 by omega) hv hc
    rw [hadd, g1, Bd_some]
    dsimp only
    rw [Gd_t (Or.inr rfl), Bd_some]
    dsimp only
    rw [Gd_t (Or.inr rfl)]
    have hf : ∀ o i, ¬ ((o = dt ∧ i = 3) ∨ o = dt + 1) → M1 o i = M o i := fun o i g => by rw [g3 o (by omega), s2_at, if_neg (by omega)]
    refine ⟨_, rfl, ⟨c0, by rw [hf _ _ (by omega)]; exact c2, by rw [hf _ _ (by omega)]; exact c3, by rw [hf _ _ (by omega)]; exact c4, by rw [g3 dt (by omega), s2_eq], fun i hi => by rw [hf _ _ (by omega)]; exact c6 i hi, fun i hi => CHr_c (fun x => hf _ x (by omega)) (c7 i hi), fun i hi => by rw [hf _ _ (by omega)]; exact c8 i hi, fun c hcc => ?_⟩, hf⟩
    have : v = c := by simpa using hcc
    rw [← this]
    exact g2
  · rw [hadd, become_0 (show n < 7 by omega) hv hc, Bd_some]
    dsimp only
    rw [Gd_t (Or.inl rfl), Bd_some]
    dsimp only
    rw [Gd_t (Or.inl rfl)]
theorem callL {len n k ns p : Nat} {tx W Me S : Nat → Nat} (hn6 : n ≤ 6) (hk : k ≤ 12) (hns : ns ≤ n) (hlen : len ≤ 240) (htx : ∀ i, i < len → tx i < 256) (hp : p ≤ len) : (∃ fl pos, (0 < fl ∧ fl ≤ 4) ∧ pos ≤ len ∧ (∀ (Mc : Mm) (dt f : Nat), CTx len tx Mc → Mc 35 3 = nI p → Mc 35 5 = 0 → PTc dt n k ns none W Me S Mc → 20 ≤ f → ∃ M', Lp (b_X7_readClause_47 35 dt (nI 99) (nI 1)) f ((1 : Int32), nI 1, Mc) = some M' ∧ M' 35 5 = nI fl ∧ M' 35 1 = nI pos ∧ FrC dt Mc M') ∧ (∀ (Mr : Mm), RTx len tx Mr → Mr 128 2 = nI p → PTr n k ns none W Me S Mr → ∃ M', f_X12_isCall 128 Mr = some (0, M') ∧ M' 128 7 = nI pos ∧ M' 128 8 = nI fl ∧ FrR Mr M')) ∨ (∃ p' c, p < p' ∧ p' ≤ len ∧ (c < 2 ^ n ∧ isC n c = true) ∧ (∀ (Mc : Mm) (dt f : Nat), CTx len tx Mc → Mc 35 3 = nI p → Mc 35 5 = 0 → PTc dt n k ns none W Me S Mc → 20 ≤ f → ∃ M', Lp (b_X7_readClause_47 35 dt (nI 99) (nI 1)) f ((1 : Int32), nI 1, Mc) = some M' ∧ M' 35 5 = 0 ∧ M' 35 3 = nI p' ∧ PTc dt n k ns (some c) W Me S M' ∧ FrS dt Mc M') ∧ (∀ (Mr : Mm), RTx len tx Mr → Mr 128 2 = nI p → PTr n k ns none W Me S Mr → ∃ M', f_X12_isCall 128 Mr = some (1, M') ∧ M' 128 2 = nI p' ∧ PTr n k ns (some c) W Me S M' ∧ FrR Mr M')) := by
  have hmw : mostW 99 = 1 := rfl
  have hfw : fewW 99 = 1 := rfl
  have h64 := pow_ns hn6
  have hpw : 0 < 2 ^ n := Nat.pow_pos (by omega)
  obtain ⟨q, q1, q2, hnum⟩ := num_cases (lo := 0) (hi := 2 ^ n - 1) hlen htx hp (by omega) (by omega)
  have hwb : ∀ (M : Mm) (dt : Nat), PTc dt n k ns none W Me S M → WBd 99 dt n 0 (2 ^ n - 1) M := fun M dt hP => Or.inr ⟨by omega, by omega, rfl, rfl, hP.1, hP.2.1, hn6⟩
  have hne : ∀ Mr : Mm, PTr n k ns none W Me S Mr → Mr 128 12 < 0 := fun Mr h => by rw [h.2.2.2.1]; decide
  rcases hnum with ⟨fl, hfl, hC, hR⟩ | ⟨v, e, ve, el, v1, v2, hC, hR⟩
  · refine Or.inl ⟨fl, q, by omega, q2, fun Mc dt f hc h4 h6 hP hf => ?_, fun Mr hr h2 hP => ?_⟩
    · obtain ⟨M', k1, k2, k3, k4⟩ := rc_fail (wd := 99) (told := 1) (f := f) hfl (by rw [hmw]; omega) (hC Mc 99 dt n (by omega) hc h4 h6 (hwb Mc dt hP)) (by omega)
      exact ⟨M', k1, k2, k3, fun o i g => k4 o i (fun z => g (Or.inl z))⟩
    · obtain ⟨M', k1, k2, k3, k4⟩ := hR Mr hr h2
      refine ⟨M', ?_, k2, k3, fun o i g => k4 o i (by omega)⟩
      unfold f_X12_isCall
      rw [if_pos (hne Mr hP), (partR (v := 0) hn6 hP.1).1 M' k1, Bd_some, if_pos rfl]
  · have hvn : v < 2 ^ n := by omega
    by_cases hcv : isC n v = true
    case neg =>
      have hcf : isC n v = false := by simpa using hcv
      refine Or.inl ⟨4, q, by omega, q2, fun Mc dt f hc h4 h6 hP hf => ?_, fun Mr hr h2 hP => ?_⟩
      · obtain ⟨M1, a1, a2, a3, a4, a5⟩ := hC Mc 99 dt n (by omega) hc h4 h6 (hwb Mc dt hP)
        have hd := hP.1
        have hP1 : PTc dt n k ns none W Me S M1 := PTc_c hk (fun o i g => a5 o i (by omega)) hP
        have hod := rc_odd (wd := 99) (told := 1) (q := q) (f := f) (by rw [hmw]; omega) a1 a2 ((enterC (v := v) hP1 hk hn6 hvn).2 hcf) (by rw [s2_ne (by omega)]; exact a4) (by omega)
        rw [hmw] at hod
        exact ⟨_, hod, by rw [s2_nk (by omega), s2_eq]; rfl, by rw [s2_eq], fun o i g => by rw [s2_at, if_neg (by omega), s2_at, if_neg (by omega), s2_at, if_neg (by omega), a5 o i (by omega)]⟩
      · obtain ⟨M1, a1, a2, a3, a4, a5⟩ := hR Mr hr h2
        refine ⟨st2 (st2 M1 128 7 (M1 128 3)) 128 8 (4 : Int32), ?_, by rw [s2_nk (by omega), s2_eq]; exact a4, by rw [s2_eq]; rfl, fun o i g => by rw [s2_at, if_neg (by omega), s2_at, if_neg (by omega), a5 o i (by omega)]⟩
        unfold f_X12_isCall
        rw [if_pos (hne Mr hP), (partR (v := v) hn6 hP.1).2 M1 a1 a2 (by rw [a5 128 9 (by omega)]; exact hP.1) hvn, if_neg hcv, Bd_some, if_pos rfl]
    obtain ⟨q', hq'⟩ := skp_ex (tx := tx) el
    have hq'l := hq'.2.1
    have hq'1 := hq'.1
    have cls : ∀ (Mc : Mm) (dt : Nat), CTx len tx Mc → Mc 35 3 = nI p → Mc 35 5 = 0 → PTc dt n k ns none W Me S Mc → ∃ M1 M2, f_X7_readNumber 35 (nI 99) dt Mc = some (nI v, M1) ∧ M1 35 5 = 0 ∧ f_X7_enter (nI 99) (nI v) dt M1 = some (1, M2) ∧ M2 35 5 = 0 ∧ M2 35 3 = nI e ∧ CTx len tx M2 ∧ PTc dt n k ns (some v) W Me S M2 ∧ FrS dt Mc M2 := fun Mc dt hc h4 h6 hP => by
      obtain ⟨M1, a1, a2, a3, a4, a5⟩ := hC Mc 99 dt n (by omega) hc h4 h6 (hwb Mc dt hP)
      have hd := hP.1
      have hP1 : PTc dt n k ns none W Me S M1 := PTc_c hk (fun o i g => a5 o i (by omega)) hP
      obtain ⟨M2, b1, b2, b3⟩ := (enterC (v := v) hP1 hk hn6 hvn).1 hcv
      refine ⟨M1, M2, a1, a2, b1, by rw [b3 35 5 (by omega)]; exact a2, by rw [b3 35 3 (by omega)]; exact a3, CTx_c (fun o i g => by rw [b3 o i (by omega), a5 o i (by omega)]) hc, b2, fun o i g => ?_⟩
      rw [b3 o i (by omega), a5 o i (by omega)]
    have ref : ∀ (Mr : Mm), RTx len tx Mr → Mr 128 2 = nI p → PTr n k ns none W Me S Mr → ∃ M9 M2, f_X12_isCall 128 Mr = Bd (f_X12_isEnd 128 M9) (fun r9 => Gd (zb r9.1) (some (r9.1, r9.2))) ∧ f_X12_nextToken 128 M9 = some M2 ∧ M2 128 3 = nI q' ∧ (M2 128 4 = (59 : Int32) ↔ q' < len ∧ tx q' = 59) ∧ ((q' < len ∧ (tx q' = 44 ∨ tx q' = 59)) → M2 128 2 = nI (q' + 1)) ∧ PTr n k ns (some v) W Me S M2 ∧ FrR Mr M2 := fun Mr hr h2 hP => by
      obtain ⟨M1, a1, a2, a3, a4, a5⟩ := hR Mr hr h2
      generalize hM9 : st2 M1 128 12 (nI v) = M9
      have f9 : ∀ o i, ¬ (o = 128 ∧ i = 12) → M9 o i = M1 o i := fun o i g => by rw [← hM9, s2_at, if_neg g]
      have hr9 : RTx len tx M9 := RTx_c (fun o i g => by rw [f9 o i (by omega), a5 o i (by omega)]) hr
      obtain ⟨M2, b1, b2, b3, b4, b5, b6⟩ := signM hr9 (by rw [f9 128 2 (by omega)]; exact a3) hq'
      obtain ⟨d1, d2, d3, d4, d5, d6, d7⟩ := id hP
      refine ⟨M9, M2, ?_, b1, b2, b4, b5, ⟨by rw [b6 128 9 (by omega), f9 128 9 (by omega), a5 128 9 (by omega)]; exact d1, by rw [b6 128 10 (by omega), f9 128 10 (by omega), a5 128 10 (by omega)]; exact d2, by rw [b6 128 11 (by omega), f9 128 11 (by omega), a5 128 11 (by omega)]; exact d3, by rw [b6 128 12 (by omega), ← hM9, s2_eq], fun i hi => by rw [b6 130 i (by omega), f9 130 i (by omega), a5 130 i (by omega)]; exact d5 i hi, fun i hi => by rw [b6 131 i (by omega), f9 131 i (by omega), a5 131 i (by omega)]; exact d6 i hi, fun i hi => by rw [b6 132 i (by omega), f9 132 i (by omega), a5 132 i (by omega)]; exact d7 i hi⟩, fun o i g => by rw [b6 o i (by omega), f9 o i (by omega), a5 o i (by omega)]⟩
      · unfold f_X12_isCall
        simp only [Lt_eq]
        rw [if_pos (hne Mr hP), (partR (v := v) hn6 hP.1).2 M1 a1 a2 (by rw [a5 128 9 (by omega)]; exact hP.1) hvn, if_pos hcv, Bd_some, if_neg one_ne]
        dsimp only
        rw [a2, hM9]
    have hFC : ∀ {dt : Nat} {A B D : Mm}, FrC dt A B → FrC dt B D → FrC dt A D := fun h1 h2 o i g => (h2 o i g).trans (h1 o i g)
    have hFS : ∀ {dt : Nat} {A B D : Mm}, FrS dt A B → FrS dt B D → FrS dt A D := fun h1 h2 o i g => (h2 o i g).trans (h1 o i g)
    by_cases ce : q' < len ∧ tx q' = 59
    · refine Or.inr ⟨q' + 1, v, by omega, by omega, ⟨hvn, hcv⟩, fun Mc dt f hc h4 h6 hP hf => ?_, fun Mr hr h2 hP => ?_⟩
      · obtain ⟨M1, M2, a1, a2, a3, a4, a5, a6, a7, a8⟩ := cls Mc dt hc h4 h6 hP
        obtain ⟨M3, g1, g2, g3⟩ := (goesOnC (wd := 99) (told := 1) a6 a5 hq' (by omega) (by omega)).2.1 ⟨ce.1, ce.2, by rw [hfw]; omega⟩
        have hd := hP.1
        obtain ⟨f', rfl⟩ : ∃ f', f = f' + 2 := ⟨f - 2, by omega⟩
        refine ⟨M3, ?_, by rw [g3 35 5 (by omega)]; exact a4, g2, PTc_c hk (fun o i g => g3 o i (by omega)) a7, hFS a8 (fun o i g => g3 o i (by omega))⟩
        have s1 := rc_step (wd := 99) (told := 1) (by rw [hmw]; omega) a1 a2 a3 a4 g1 (Or.inl rfl)
        rw [hmw] at s1
        have s2' := rc_end (dt := dt) (wd := 99) (x := 1 + 1) (M := M3)
        rw [hmw] at s2'
        rw [Lp_s s1, Lp_e s2']
      · obtain ⟨M9, M2, b0, b1, b2, b4, b5, b6, b8⟩ := ref Mr hr h2 hP
        refine ⟨M2, ?_, b5 ⟨ce.1, Or.inr ce.2⟩, b6, b8⟩
        rw [b0]
        unfold f_X12_isEnd
        rw [b1, Bd_some, if_pos (b4.mpr ce), Bd_some]
        dsimp only
        rw [Gd_t (Or.inr rfl)]
    · refine Or.inl ⟨1, q', by omega, hq'l, fun Mc dt f hc h4 h6 hP hf => ?_, fun Mr hr h2 hP => ?_⟩
      · obtain ⟨M1, M2, a1, a2, a3, a4, a5, a6, a7, a8⟩ := cls Mc dt hc h4 h6 hP
        obtain ⟨M3, g1, g2, g3, g4⟩ := (goesOnC (wd := 99) (told := 1) a6 a5 hq' (by omega) (by omega)).2.2 ⟨by rw [hmw]; omega, by rw [hfw]; exact fun z => ce ⟨z.1, z.2.1⟩⟩
        have hd := hP.1
        obtain ⟨f', rfl⟩ : ∃ f', f = f' + 2 := ⟨f - 2, by omega⟩
        refine ⟨M3, ?_, g2, g3, hFC (FsC a8) (fun o i g => g4 o i (by omega))⟩
        have s1 := rc_step (wd := 99) (told := 1) (by rw [hmw]; omega) a1 a2 a3 a4 g1 (Or.inl rfl)
        rw [hmw] at s1
        have s2' := rc_end (dt := dt) (wd := 99) (x := 1 + 1) (M := M3)
        rw [hmw] at s2'
        rw [Lp_s s1, Lp_e s2']
      · obtain ⟨M9, M2, b0, b1, b2, b4, b5, b6, b8⟩ := ref Mr hr h2 hP
        refine ⟨st2 (st2 M2 128 7 (M2 128 3)) 128 8 (1 : Int32), ?_, by rw [s2_nk (by omega), s2_eq]; exact b2, by rw [s2_eq]; rfl, fun o i g => by rw [s2_at, if_neg (by omega), s2_at, if_neg (by omega)]; exact b8 o i g⟩
        rw [b0]
        unfold f_X12_isEnd
        rw [b1, Bd_some, if_neg (fun z => ce (b4.mp z)), failsR, Bd_some]
        dsimp only
        rw [if_pos rfl, Bd_some]
        dsimp only
        rw [Gd_t (Or.inl rfl)]
