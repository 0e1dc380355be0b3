/-! clause r -/
theorem enterS {dt n k ns v : Nat} {cl : Option Nat} {W Me S : Nat → Nat} {M : Mm} (h : PTc dt n k ns cl W Me S M) (hk : k ≤ 12) (hs : ns < 6) : ∃ M', f_X7_enter (nI 114) (nI v) dt M = some (1, M') ∧ PTc dt n k (ns + 1) cl W Me (fun i => if i = ns then v else S i) M' ∧ ∀ o i, ¬ ((o = dt ∧ i = 2) ∨ o = dt + 4) → M' o i = M o i := by
  obtain ⟨c0, c2, c3, c4, c5, c6, c7, c8, c9⟩ := h
  have hg : ib (M dt 2) 6 := by rw [c4]; exact (ib_nI (by omega)).mpr hs
  unfold f_X7_enter f_X9_addSuitor
  simp only [Lt_eq]
  rw [if_neg (show ¬ nI 114 = (98 : Int32) by decide), if_neg (show ¬ nI 114 = (109 : Int32) by decide), if_pos (show nI 114 = (114 : Int32) from rfl), if_neg (show ¬ (6 : Int32) ≤ M dt 2 by rw [c4]; exact nI_ge (b := 6) hs (by omega)), Gd_t hg, c4, ix_nI (by omega), nI_1, Bd_some]
  have hf : ∀ o i, ¬ ((o = dt ∧ i = 2) ∨ o = dt + 4) → st2 (st2 M dt 2 (nI (ns + 1))) (dt + 4) ns (nI v) o i = M o i := fun o i g => by rw [s2_at, if_neg (by omega), s2_at, if_neg (by omega)]
  refine ⟨_, rfl, ⟨c0, by rw [hf _ _ (by omega)]; exact c2, by rw [hf _ _ (by omega)]; exact c3, by rw [s2_ne (by omega), s2_eq], by rw [hf _ _ (by omega)]; exact c5, fun i hi => by rw [hf _ _ (by omega)]; exact c6 i hi, fun i hi => CHr_c (fun x => hf _ x (by omega)) (c7 i hi), fun i hi => ?_, fun c hc => CHr_c (fun x => hf _ x (by omega)) (c9 c hc)⟩, hf⟩
  show st2 _ (dt + 4) ns (nI v) (dt + 4) i = nI (if i = ns then v else S i)
  rw [s2_at]
  by_cases e : i = ns
  · rw [if_pos ⟨rfl, e⟩, if_pos e]
  · rw [if_neg (by omega), if_neg e, s2_ne (by omega)]
    exact c8 i (by omega)
theorem suitL {len n k ns p : Nat} {cl : Option Nat} {tx W Me S : Nat → Nat} (hn6 : n ≤ 6) (hk : k ≤ 12) (hns : ns < n) (hlen : len ≤ 240) (htx : ∀ i, i < len → tx i < 256) (hp : p ≤ len) (hS : ∀ i, i < ns → S i < 32) : (∃ fl pos, (0 < fl ∧ fl ≤ 4) ∧ pos ≤ len ∧ (∀ (Mc : Mm) (dt f : Nat), CTx len tx Mc → Mc 35 3 = nI p → Mc 35 5 = 0 → PTc dt n k ns cl W Me S Mc → 20 ≤ f → ∃ M', Lp (b_X7_readClause_47 35 dt (nI 114) (nI 1)) f ((1 : Int32), nI 1, Mc) = some M' ∧ M' 35 5 = nI fl ∧ M' 35 1 = nI pos ∧ FrC dt Mc M') ∧ (∀ (Mr : Mm), RTx len tx Mr → Mr 128 2 = nI p → PTr n k ns cl W Me S Mr → ∃ M', f_X12_isSuitorItem 128 Mr = some (0, M') ∧ M' 128 7 = nI pos ∧ M' 128 8 = nI fl ∧ FrR Mr M')) ∨ (∃ p' S', p < p' ∧ p' ≤ len ∧ (∀ i, i < ns + 1 → S' i < 32) ∧ (∀ (Mc : Mm) (dt f : Nat), CTx len tx Mc → Mc 35 3 = nI p → Mc 35 5 = 0 → PTc dt n k ns cl W Me S Mc → 20 ≤ f → ∃ M', Lp (b_X7_readClause_47 35 dt (nI 114) (nI 1)) f ((1 : Int32), nI 1, Mc) = some M' ∧ M' 35 5 = 0 ∧ M' 35 3 = nI p' ∧ PTc dt n k (ns + 1) cl W Me S' M' ∧ FrS dt Mc M') ∧ (∀ (Mr : Mm), RTx len tx Mr → Mr 128 2 = nI p → PTr n k ns cl W Me S Mr → ∃ M', f_X12_isSuitorItem 128 Mr = some (1, M') ∧ M' 128 2 = nI p' ∧ PTr n k (ns + 1) cl W Me S' M' ∧ FrR Mr M')) := by
  have hmw : mostW 114 = 1 := rfl
  have hfw : fewW 114 = 1 := rfl
  obtain ⟨q, q1, q2, hnum⟩ := num_cases (lo := 1) (hi := 20) hlen htx hp (by omega) (by omega)
  have hwb : ∀ (M : Mm) (dt : Nat), WBd 114 dt 0 1 20 M := fun M dt => Or.inl ⟨Or.inr rfl, rfl, rfl⟩
  have hne : ∀ Mr : Mm, PTr n k ns cl W Me S Mr → ¬ Mr 128 11 = Mr 128 9 := fun Mr h => by rw [h.1, h.2.2.1]; exact fun z => by have := nI_inj (by omega) (by omega) z; omega
  rcases hnum with ⟨fl, hfl, hC, hR⟩ | ⟨v, e, ve, el, v1, v2, hC, hR⟩
  · refine Or.inl ⟨fl, q, by omega, q2, fun Mc dt f hc h4 h6 hP hf => ?_, fun Mr hr h2 hP => ?_⟩
    · obtain ⟨M', k1, k2, k3, k4⟩ := rc_fail (wd := 114) (told := 1) (f := f) hfl (by rw [hmw]; omega) (hC Mc 114 dt 0 (by omega) hc h4 h6 (hwb Mc dt)) (by omega)
      exact ⟨M', k1, k2, k3, fun o i g => k4 o i (fun z => g (Or.inl z))⟩
    · obtain ⟨M', k1, k2, k3, k4⟩ := hR Mr hr h2
      refine ⟨M', ?_, k2, k3, fun o i g => k4 o i (by omega)⟩
      unfold f_X12_isSuitorItem
      rw [if_neg (hne Mr hP), show f_X12_isNumber 128 (1 : Int32) (20 : Int32) Mr = some (0, M') from k1, Bd_some, if_pos rfl]
  · obtain ⟨q', hq'⟩ := skp_ex (tx := tx) el
    have hq'l := hq'.2.1
    have hq'1 := hq'.1
    have cls : ∀ (Mc : Mm) (dt : Nat), CTx len tx Mc → Mc 35 3 = nI p → Mc 35 5 = 0 → PTc dt n k ns cl W Me S Mc → ∃ M1 M2, f_X7_readNumber 35 (nI 114) dt Mc = some (nI v, M1) ∧ M1 35 5 = 0 ∧ f_X7_enter (nI 114) (nI v) dt M1 = some (1, M2) ∧ M2 35 5 = 0 ∧ M2 35 3 = nI e ∧ CTx len tx M2 ∧ PTc dt n k (ns + 1) cl W Me (fun i => if i = ns then v else S i) M2 ∧ FrS dt Mc M2 := fun Mc dt hc h4 h6 hP => by
      obtain ⟨M1, a1, a2, a3, a4, a5⟩ := hC Mc 114 dt 0 (by omega) hc h4 h6 (hwb Mc dt)
      have hd := hP.1
      have hP1 : PTc dt n k ns cl W Me S M1 := PTc_c hk (fun o i g => a5 o i (by omega)) hP
      obtain ⟨M2, b1, b2, b3⟩ := enterS (v := v) hP1 hk (by omega)
      refine ⟨M1, M2, a1, a2, b1, by rw [b3 35 5 (by omega)]; exact a2, by rw [b3 35 3 (by omega)]; exact a3, CTx_c (fun o i g => by rw [b3 o i (by omega), a5 o i (by omega)]) hc, b2, fun o i g => ?_⟩
      rw [b3 o i (by omega), a5 o i (by omega)]
    have ref : ∀ (Mr : Mm), RTx len tx Mr → Mr 128 2 = nI p → PTr n k ns cl W Me S Mr → ∃ M9 M2, f_X12_isSuitorItem 128 Mr = Bd (f_X12_isEnd 128 M9) (fun r9 => Gd (zb r9.1) (some (r9.1, r9.2))) ∧ f_X12_nextToken 128 M9 = some M2 ∧ M2 128 3 = nI q' ∧ (M2 128 4 = (59 : Int32) ↔ q' < len ∧ tx q' = 59) ∧ ((q' < len ∧ (tx q' = 44 ∨ tx q' = 59)) → M2 128 2 = nI (q' + 1)) ∧ PTr n k (ns + 1) cl W Me (fun i => if i = ns then v else S i) M2 ∧ FrR Mr M2 := fun Mr hr h2 hP => by
      obtain ⟨M1, a1, a2, a3, a4, a5⟩ := hR Mr hr h2
      have h9 : M1 128 11 = nI ns := by rw [a5 128 11 (by omega)]; exact hP.2.2.1
      have hg : ib (M1 128 11) 6 := by rw [h9]; exact (ib_nI (by omega)).mpr (by omega)
      generalize hM9 : st2 (st2 M1 132 ns (nI v)) 128 11 (nI (ns + 1)) = M9
      have f9 : ∀ o i, ¬ ((o = 132 ∧ i = ns) ∨ (o = 128 ∧ i = 11)) → M9 o i = M1 o i := fun o i g => by rw [← hM9, s2_at, if_neg (by omega), s2_at, if_neg (by omega)]
      have hr9 : RTx len tx M9 := RTx_c (fun o i g => by rw [f9 o i (by omega), a5 o i (by omega)]) hr
      obtain ⟨M2, b1, b2, b3, b4, b5, b6⟩ := signM hr9 (by rw [f9 128 2 (by omega)]; exact a3) hq'
      obtain ⟨d1, d2, d3, d4, d5, d6, d7⟩ := id hP
      refine ⟨M9, M2, ?_, b1, b2, b4, b5, ⟨by rw [b6 128 9 (by omega), f9 128 9 (by omega), a5 128 9 (by omega)]; exact d1, by rw [b6 128 10 (by omega), f9 128 10 (by omega), a5 128 10 (by omega)]; exact d2, by rw [b6 128 11 (by omega), ← hM9, s2_eq], by rw [b6 128 12 (by omega), f9 128 12 (by omega), a5 128 12 (by omega)]; exact d4, fun i hi => by rw [b6 130 i (by omega), f9 130 i (by omega), a5 130 i (by omega)]; exact d5 i hi, fun i hi => by rw [b6 131 i (by omega), f9 131 i (by omega), a5 131 i (by omega)]; exact d6 i hi, fun i hi => ?_⟩, fun o i g => by rw [b6 o i (by omega), f9 o i (by omega), a5 o i (by omega)]⟩
      · unfold f_X12_isSuitorItem
        simp only [Lt_eq]
        rw [if_neg (hne Mr hP), show f_X12_isNumber 128 (1 : Int32) (20 : Int32) Mr = some (1, M1) from a1, Bd_some, if_neg one_ne]
        dsimp only
        rw [Gd_t hg, h9, ix_nI (by omega), a2, s2_ne (show 128 ≠ 132 by omega), h9, nI_1, hM9]
      · show M2 132 i = nI (if i = ns then v else S i)
        rw [b6 132 i (by omega)]
        by_cases c : i = ns
        · rw [← hM9, s2_ne (by omega), if_pos c, c, s2_eq]
        · rw [f9 132 i (by omega), a5 132 i (by omega), if_neg c]
          exact d7 i (by omega)
    have hFC : ∀ {dt : Nat} {A B D : Mm}, FrC dt A B → FrC dt B D → FrC dt A D := fun h1 h2 o i g => (h2 o i g).trans (h1 o i g)
    have hFS : ∀ {dt : Nat} {A B D : Mm}, FrS dt A B → FrS dt B D → FrS dt A D := fun h1 h2 o i g => (h2 o i g).trans (h1 o i g)
    by_cases ce : q' < len ∧ tx q' = 59
    · refine Or.inr ⟨q' + 1, fun i => if i = ns then v else S i, by omega, by omega, fun i hi => ?_, fun Mc dt f hc h4 h6 hP hf => ?_, fun Mr hr h2 hP => ?_⟩
      · show (if i = ns then v else S i) < 32
        by_cases c : i = ns
        · rw [if_pos c]; omega
        · rw [if_neg c]; exact hS i (by omega)
      · obtain ⟨M1, M2, a1, a2, a3, a4, a5, a6, a7, a8⟩ := cls Mc dt hc h4 h6 hP
        obtain ⟨M3, g1, g2, g3⟩ := (goesOnC (wd := 114) (told := 1) a6 a5 hq' (by omega) (by omega)).2.1 ⟨ce.1, ce.2, by rw [hfw]; omega⟩
        have hd := hP.1
        obtain ⟨f', rfl⟩ : ∃ f', f = f' + 2 := ⟨f - 2, by omega⟩
        refine ⟨M3, ?_, by rw [g3 35 5 (by omega)]; exact a4, g2, PTc_c hk (fun o i g => g3 o i (by omega)) a7, hFS a8 (fun o i g => g3 o i (by omega))⟩
        have s1 := rc_step (wd := 114) (told := 1) (by rw [hmw]; omega) a1 a2 a3 a4 g1 (Or.inl rfl)
        rw [hmw] at s1
        have s2' := rc_end (dt := dt) (wd := 114) (x := 1 + 1) (M := M3)
        rw [hmw] at s2'
        rw [Lp_s s1, Lp_e s2']
      · obtain ⟨M9, M2, b0, b1, b2, b4, b5, b6, b8⟩ := ref Mr hr h2 hP
        refine ⟨M2, ?_, b5 ⟨ce.1, Or.inr ce.2⟩, b6, b8⟩
        rw [b0]
        unfold f_X12_isEnd
        rw [b1, Bd_some, if_pos (b4.mpr ce), Bd_some]
        dsimp only
        rw [Gd_t (Or.inr rfl)]
    · refine Or.inl ⟨1, q', by omega, hq'l, fun Mc dt f hc h4 h6 hP hf => ?_, fun Mr hr h2 hP => ?_⟩
      · obtain ⟨M1, M2, a1, a2, a3, a4, a5, a6, a7, a8⟩ := cls Mc dt hc h4 h6 hP
        obtain ⟨M3, g1, g2, g3, g4⟩ := (goesOnC (wd := 114) (told := 1) a6 a5 hq' (by omega) (by omega)).2.2 ⟨by rw [hmw]; omega, by rw [hfw]; exact fun z => ce ⟨z.1, z.2.1⟩⟩
        have hd := hP.1
        obtain ⟨f', rfl⟩ : ∃ f', f = f' + 2 := ⟨f - 2, by omega⟩
        refine ⟨M3, ?_, g2, g3, hFC (FsC a8) (fun o i g => g4 o i (by omega))⟩
        have s1 := rc_step (wd := 114) (told := 1) (by rw [hmw]; omega) a1 a2 a3 a4 g1 (Or.inl rfl)
        rw [hmw] at s1
        have s2' := rc_end (dt := dt) (wd := 114) (x := 1 + 1) (M := M3)
        rw [hmw] at s2'
        rw [Lp_s s1, Lp_e s2']
      · obtain ⟨M9, M2, b0, b1, b2, b4, b5, b6, b8⟩ := ref Mr hr h2 hP
        refine ⟨st2 (st2 M2 128 7 (M2 128 3)) 128 8 (1 : Int32), ?_, by rw [s2_nk (by omega), s2_eq]; exact b2, by rw [s2_eq]; rfl, fun o i g => by rw [s2_at, if_neg (by omega), s2_at, if_neg (by omega)]; exact b8 o i g⟩
        rw [b0]
        unfold f_X12_isEnd
        rw [b1, Bd_some, if_neg (fun z => ce (b4.mp z)), failsR, Bd_some]
        dsimp only
        rw [if_pos rfl, Bd_some]
        dsimp only
        rw [Gd_t (Or.inl rfl)]
