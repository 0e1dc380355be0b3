/-! the sign behind a number -/
def mostW (wd : Nat) : Nat := if wd = 98 then 6 else if wd = 109 then 12 else 1
def fewW (wd : Nat) : Nat := if wd = 98 then 3 else 1
theorem most_spec {wd : Nat} (h : wd < 1000) : f_X7_mostNumbers (nI wd) = some (nI (mostW wd)) := by
  unfold f_X7_mostNumbers mostW
  by_cases h1 : wd = 98
  · rw [if_pos (show nI wd = (98 : Int32) by rw [h1]; rfl), if_pos h1]; rfl
  · rw [if_neg (show ¬ nI wd = (98 : Int32) from fun z => h1 (nI_inj (b := 98) (by omega) (by omega) z)), if_neg h1]
    by_cases h2 : wd = 109
    · rw [if_pos (show nI wd = (109 : Int32) by rw [h2]; rfl), if_pos h2]; rfl
    · rw [if_neg (show ¬ nI wd = (109 : Int32) from fun z => h2 (nI_inj (b := 109) (by omega) (by omega) z)), if_neg h2]; rfl
theorem mostW_le (wd : Nat) : mostW wd ≤ 12 := by unfold mostW; split; omega; split <;> omega
theorem goesOnC {len p q wd told : Nat} {tx : Nat → Nat} {M : Mm} (h : CTx len tx M) (h4 : M 35 3 = nI p) (hq : SKP len tx p q) (hwd : wd < 1000) (hto : told ≤ 12) : ((q < len ∧ tx q = 44 ∧ told < mostW wd) → ∃ M', f_X7_goesOn 35 (nI wd) (nI told) M = some (1, M') ∧ M' 35 3 = nI (q + 1) ∧ ∀ o j, ¬ (o = 35 ∧ j = 3) → M' o j = M o j) ∧ ((q < len ∧ tx q = 59 ∧ fewW wd ≤ told) → ∃ M', f_X7_goesOn 35 (nI wd) (nI told) M = some (0, M') ∧ M' 35 3 = nI (q + 1) ∧ ∀ o j, ¬ (o = 35 ∧ j = 3) → M' o j = M o j) ∧ ((¬ (q < len ∧ tx q = 44 ∧ told < mostW wd) ∧ ¬ (q < len ∧ tx q = 59 ∧ fewW wd ≤ told)) → ∃ M', f_X7_goesOn 35 (nI wd) (nI told) M = some (0, M') ∧ M' 35 5 = nI 1 ∧ M' 35 1 = nI q ∧ ∀ o j, ¬ (o = 35 ∧ (j = 1 ∨ j = 3 ∨ j = 5)) → M' o j = M o j) := by
  obtain ⟨M1, g1, g2, g3⟩ := skipC h h4 hq
  have hc1 : CTx len tx M1 := CTx_c (fun o j g => g3 o j (by omega)) h
  have hl := h.1
  have hql := hq.2.1
  have hm12 := mostW_le wd
  have hj2 : (if nI wd = (98 : Int32) then (3 : Int32) else (1 : Int32)) = nI (fewW wd) := by
    unfold fewW
    by_cases h1 : wd = 98
    · rw [if_pos (show nI wd = (98 : Int32) by rw [h1]; rfl), if_pos h1]; rfl
    · rw [if_neg (show ¬ nI wd = (98 : Int32) from fun z => h1 (nI_inj (b := 98) (by omega) (by omega) z)), if_neg h1]; rfl
  have hf3 : fewW wd ≤ 3 := by unfold fewW; split <;> omega
  obtain ⟨s, hs, s44, s59⟩ : ∃ s : Int32, f_X7_letterHere 35 M1 = some s ∧ (s = (44 : Int32) ↔ q < len ∧ tx q = 44) ∧ (s = (59 : Int32) ↔ q < len ∧ tx q = 59) := by
    by_cases c : q = len
    · refine ⟨-1, here_end hc1 (by rw [g2, c]), ⟨fun z => absurd z (by decide), fun z => absurd z.1 (by omega)⟩, ⟨fun z => absurd z (by decide), fun z => absurd z.1 (by omega)⟩⟩
    · have ht := h.2.2 q (by omega)
      refine ⟨nI (tx q), here_in hc1 g2 (by omega), ⟨fun z => ⟨by omega, nI_inj (b := 44) (by omega) (by omega) z⟩, fun z => by rw [z.2]; rfl⟩, ⟨fun z => ⟨by omega, nI_inj (b := 59) (by omega) (by omega) z⟩, fun z => by rw [z.2]; rfl⟩⟩
  have hbody : f_X7_goesOn 35 (nI wd) (nI told) M = Bd (((if s = (44 : Int32) then (if nI (mostW wd) ≤ nI told then some (0 : Int32) else some (1 : Int32)) else some (0 : Int32))) : Option (Int32)) (fun j6 => Bd (((if j6 = 0 then (if (((if s = (59 : Int32) then (if nI told < nI (fewW wd) then (0 : Int32) else (1 : Int32)) else (0 : Int32))) : Int32) = 0 then some (st2 (st2 M1 35 5 (1 : Int32)) 35 1 (nI q)) else some (st2 M1 35 3 (nI (q + 1)))) else some (st2 M1 35 3 (nI (q + 1))))) : Option (Mm)) (fun j15 => Gd (zb j6) (some (j6, j15)))) := by
    unfold f_X7_goesOn f_X7_fail
    simp only [Lt_eq, Bd_some]
    rw [g1, Bd_some, hs, Bd_some, most_spec hwd, Bd_some, hj2, g2, nI_1]
  have z0 : zb (0 : Int32) := Or.inl rfl
  have z1 : zb (1 : Int32) := Or.inr rfl
  have f4 : ∀ o j, ¬ (o = 35 ∧ j = 3) → st2 M1 35 3 (nI (q + 1)) o j = M o j := fun o j g => by rw [s2_at, if_neg g, g3 o j g]
  refine ⟨fun ⟨c1, c2, c3⟩ => ?_, fun ⟨c1, c2, c3⟩ => ?_, fun ⟨c1, c2⟩ => ?_⟩
  · rw [hbody, if_pos (s44.mpr ⟨c1, c2⟩), if_neg (nI_ge c3 (by omega)), Bd_some, if_neg one_ne, Bd_some, Gd_t z1]
    exact ⟨_, rfl, s2_eq, f4⟩
  · rw [hbody, if_neg (fun z => by have := (s44.mp z).2; omega), Bd_some, if_pos rfl, if_pos (s59.mpr ⟨c1, c2⟩), if_neg (nI_nlt c3 (by omega)), if_neg one_ne, Bd_some, Gd_t z0]
    exact ⟨_, rfl, s2_eq, f4⟩
  · have h6 : (((if s = (44 : Int32) then (if nI (mostW wd) ≤ nI told then some (0 : Int32) else some (1 : Int32)) else some (0 : Int32))) : Option (Int32)) = some 0 := by
      by_cases e : s = (44 : Int32)
      · obtain ⟨a1, a2⟩ := s44.mp e
        rw [if_pos e, if_pos (nI_le (show mostW wd ≤ told by
          apply Classical.byContradiction
          intro hh
          exact c1 ⟨a1, a2, by omega⟩) (by omega))]
      · rw [if_neg e]
    have h10 : (((if s = (59 : Int32) then (if nI told < nI (fewW wd) then (0 : Int32) else (1 : Int32)) else (0 : Int32))) : Int32) = 0 := by
      by_cases e : s = (59 : Int32)
      · obtain ⟨a1, a2⟩ := s59.mp e
        rw [if_pos e, if_pos (nI_lt (show told < fewW wd by
          apply Classical.byContradiction
          intro hh
          exact c2 ⟨a1, a2, by omega⟩) (by omega))]
      · rw [if_neg e]
    rw [hbody, h6, Bd_some, if_pos rfl, h10, if_pos rfl, Bd_some, Gd_t z0]
    exact ⟨_, rfl, by rw [s2_nk (by omega), s2_eq]; rfl, by rw [s2_eq], fun o j g => by rw [s2_at, if_neg (by omega), s2_at, if_neg (by omega), g3 o j (by omega)]⟩
/-- the reference's next token is the same sign -/
theorem signM {len p q : Nat} {tx : Nat → Nat} {M : Mm} (h : RTx len tx M) (h2 : M 128 2 = nI p) (hq : SKP len tx p q) : ∃ M', f_X12_nextToken 128 M = some M' ∧ M' 128 3 = nI q ∧ (M' 128 4 = (44 : Int32) ↔ q < len ∧ tx q = 44) ∧ (M' 128 4 = (59 : Int32) ↔ q < len ∧ tx q = 59) ∧ ((q < len ∧ (tx q = 44 ∨ tx q = 59)) → M' 128 2 = nI (q + 1)) ∧ ∀ o j, ¬ (o = 128 ∧ 2 ≤ j ∧ j ≤ 6) → M' o j = M o j := by
  obtain ⟨M1, g1, g2, g3, g4, g5, g6⟩ := tokM h h2 hq
  have hql := hq.2.1
  have hl := h.1
  refine ⟨M1, g1, g2, ?_, ?_, fun hh => (g4 hh.1 (by omega)).2, g6⟩
  all_goals
    by_cases c : q = len
    · rw [(g3 c).1]
      exact ⟨fun z => absurd z (by decide), fun z => absurd z.1 (by omega)⟩
    · have ht := (h.2.2 q (by omega)).1
      by_cases d : 48 ≤ tx q ∧ tx q ≤ 57
      · obtain ⟨e, he⟩ := dgp_ex (tx := tx) hql
        have hlt : q < e := by
          have h1 := he.1
          have h4 := he.2.2.2
          apply Classical.byContradiction
          intro hh
          have : e = q := by omega
          rw [this] at h4
          exact h4 (by omega) d
        rw [(g5 e hlt he).1]
        exact ⟨fun z => absurd z (by decide), fun z => by omega⟩
      · rw [(g4 (by omega) d).1]
        first
          | exact ⟨fun z => ⟨by omega, nI_inj (b := 44) (by omega) (by omega) z⟩, fun z => by rw [z.2]; rfl⟩
          | exact ⟨fun z => ⟨by omega, nI_inj (b := 59) (by omega) (by omega) z⟩, fun z => by rw [z.2]; rfl⟩
