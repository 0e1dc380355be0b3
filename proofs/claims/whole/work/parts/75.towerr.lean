theorem kt_131 : kln 130 = 6 := by decide
theorem kt_132 : kln 131 = 12 := by decide
theorem kt_133 : kln 132 = 6 := by decide
theorem kt_134 : kln 133 = 6 := by decide
theorem kt_135 : kln 134 = 12 := by decide
theorem kt_136 : kln 135 = 6 := by decide
theorem towR_ok {n k ns : Nat} {cl : Option Nat} {W Me S : Nat → Nat} {M M1 : Mm} (hV : VD n k ns cl W Me S) (h : f_X12_isRead 128 M = some (1, M1)) (hP : PTr n k ns cl W Me S M1) (hF : FrR M M1) : ∃ M', f_X12_tower 128 M = some (nI n, M') ∧ MT n (kF n k) ns (clF n cl) (meF n k Me) W S M' ∧ M' 128 0 = nI 0 ∧ M' 128 7 = (-1 : Int32) ∧ AR nwE (M' 136) ∧ M' 128 31 = nI 0 ∧ M' 128 33 = nI 0 ∧ M' 128 26 = nI 0 ∧ M' 141 0 = 0 ∧ M' 141 1 = 0 ∧ ∀ o j, ¬ ((o = 128 ∧ ¬ j = 30) ∨ (130 ≤ o ∧ o ≤ 136) ∨ o = 141) → M' o j = M o j := by
  obtain ⟨n6, k12, nsn⟩ := VD_n hV
  obtain ⟨p9, p10, p11, p12, pW, pM, pS⟩ := hP
  rw [tower_eq, h, Bd_some, Lt_eq, if_neg (show ¬ ((1 : Int32), M1).1 = 0 from one_ne), Lt_eq]
  generalize hA : st2 (st2 M1 128 0 (0 : Int32)) 128 7 (-1 : Int32) = A
  have fA : ∀ o j, ¬ (o = 128 ∧ (j = 0 ∨ j = 7)) → A o j = M1 o j := fun o j g => by rw [← hA, s2_at, if_neg (by omega), s2_at, if_neg (by omega)]
  have A0 : A 128 0 = nI 0 := by rw [← hA, s2_nk (by omega), s2_eq]; rfl
  have A7 : A 128 7 = (-1 : Int32) := by rw [← hA, s2_eq]
  unfold towT1
  rw [Lt_eq, Lt_eq]
  rw [fA 128 9 (by omega), p9, s2_nk (show 11 ≠ 16 by omega), fA 128 11 (by omega), p11]
  generalize hB : st2 (st2 A 128 16 (nI n)) 128 18 (nI ns) = B
  have fB : ∀ o j, ¬ (o = 128 ∧ (j = 16 ∨ j = 18)) → B o j = A o j := fun o j g => by rw [← hB, s2_at, if_neg (by omega), s2_at, if_neg (by omega)]
  have B16 : B 128 16 = nI n := by rw [← hB, s2_nk (by omega), s2_eq]
  have B18 : B 128 18 = nI ns := by rw [← hB, s2_eq]
  obtain ⟨D1, x1, x2, -, x4⟩ := bring_spec (M := B) (o0 := 130) (o2 := 133) (a := 0) (b := 0) (n := 6) (by rw [kt_131]; omega) (by rw [kt_134]; omega) (by rw [kt_131]; omega) (by rw [kt_134]; omega) (Or.inl (by omega))
  rw [show f_X12_bring 130 (0 : Int32) 133 (0 : Int32) (6 : Int32) B = some D1 from x1, Bd_some]
  obtain ⟨D2, y1, y2, -, y4⟩ := bring_spec (M := D1) (o0 := 131) (o2 := 134) (a := 0) (b := 0) (n := 12) (by rw [kt_132]; omega) (by rw [kt_135]; omega) (by rw [kt_132]; omega) (by rw [kt_135]; omega) (Or.inl (by omega))
  rw [show f_X12_bring 131 (0 : Int32) 134 (0 : Int32) (12 : Int32) D1 = some D2 from y1, Bd_some]
  obtain ⟨D3, z1, z2, -, z4⟩ := bring_spec (M := D2) (o0 := 132) (o2 := 135) (a := 0) (b := 0) (n := 6) (by rw [kt_133]; omega) (by rw [kt_136]; omega) (by rw [kt_133]; omega) (by rw [kt_136]; omega) (Or.inl (by omega))
  rw [show f_X12_bring 132 (0 : Int32) 135 (0 : Int32) (6 : Int32) D2 = some D3 from z1, Bd_some]
  have fD : ∀ o, ¬ (133 ≤ o ∧ o ≤ 135) → D3 o = B o := fun o g => by rw [z4 o (by omega), y4 o (by omega), x4 o (by omega)]
  have D16 : D3 128 16 = nI n := by rw [fD 128 (by omega)]; exact B16
  have D10 : D3 128 10 = nI k := by rw [fD 128 (by omega), fB 128 10 (by omega), fA 128 10 (by omega)]; exact p10
  have D12 : D3 128 12 = M1 128 12 := by rw [fD 128 (by omega), fB 128 12 (by omega), fA 128 12 (by omega)]
  have w134 : ∀ i, i < n → D3 133 i = nI (W i) := fun i hi => by
    have := x2 i (by omega)
    rw [show 0 + i = i by omega] at this
    rw [z4 133 (by omega), y4 133 (by omega), this, fB 130 i (by omega), fA 130 i (by omega)]
    exact pW i hi
  have w135 : ∀ i, i < k → D3 134 i = nI (Me i) := fun i hi => by
    have := y2 i (by omega)
    rw [show 0 + i = i by omega] at this
    rw [z4 134 (by omega), this, x4 131 (by omega), fB 131 i (by omega), fA 131 i (by omega)]
    exact pM i hi
  have w136 : ∀ i, i < ns → D3 135 i = nI (S i) := fun i hi => by
    have := z2 i (by omega)
    rw [show 0 + i = i by omega] at this
    rw [this, y4 132 (by omega), x4 132 (by omega), fB 132 i (by omega), fA 132 i (by omega)]
    exact pS i hi
  have e12 : (cl = none → D3 128 12 = (-1 : Int32)) ∧ ∀ c, cl = some c → D3 128 12 = nI c := by
    rw [D12]
    refine ⟨fun z => ?_, fun c z => ?_⟩
    · subst z; exact p12
    · subst z; exact p12
  obtain ⟨L, L1, L17, L19, L135, LA, L31, L33, L26, L0, L1', LF⟩ := towT2_ok n6 k12 (fun c hc => (hV.2.2.2.2.2.2 c hc).1) D16 D10 e12 w135
  refine ⟨L, L1, ⟨?_, L17, ?_, L19, L135, fun i hi => ?_, fun i hi => ?_⟩, ?_, ?_, LA, L31, L33, L26, L0, L1', fun o j g => ?_⟩
  · rw [LF 128 16 (by omega)]; exact D16
  · rw [LF 128 18 (by omega), fD 128 (by omega)]; exact B18
  · rw [LF 133 i (by omega)]; exact w134 i hi
  · rw [LF 135 i (by omega)]; exact w136 i hi
  · rw [LF 128 0 (by omega), fD 128 (by omega), fB 128 0 (by omega)]; exact A0
  · rw [LF 128 7 (by omega), fD 128 (by omega), fB 128 7 (by omega)]; exact A7
  · rw [LF o j (by omega), fD o (by omega), fB o j (by omega), fA o j (by omega), hF o j (by omega)]
