/-! a number, in both -/
def WBd (wd dt n lo hi : Nat) (M : Mm) : Prop := ((wd = 98 ∨ wd = 114) ∧ lo = 1 ∧ hi = 20) ∨ (¬ wd = 98 ∧ ¬ wd = 114 ∧ lo = 0 ∧ hi = 2 ^ n - 1 ∧ (dt = 1 ∨ dt = 18) ∧ M dt 0 = nI n ∧ n ≤ 6)
theorem within_spec {wd dt n lo hi v : Nat} {M : Mm} (h : WBd wd dt n lo hi M) (hwd : wd < 1000) (hv : v < 1000) : f_X7_withinBounds (nI wd) (nI v) dt M = (if lo ≤ v ∧ v ≤ hi then (1 : Int32) else (0 : Int32)) := by
  unfold f_X7_withinBounds
  rcases h with ⟨h1, rfl, rfl⟩ | ⟨h1, h2, rfl, rfl, h6, h7, h8⟩
  · have hin : (if nI v < (1 : Int32) then (0 : Int32) else (if (20 : Int32) < nI v then (0 : Int32) else (1 : Int32))) = (if 1 ≤ v ∧ v ≤ 20 then (1 : Int32) else (0 : Int32)) := by
      by_cases c1 : v < 1
      · rw [if_pos (show nI v < (1 : Int32) from nI_lt (b := 1) c1 (by omega)), if_neg (show ¬ (1 ≤ v ∧ v ≤ 20) by omega)]
      · rw [if_neg (show ¬ nI v < (1 : Int32) from nI_nlt (b := 1) (by omega) (by omega))]
        by_cases c2 : v ≤ 20
        · rw [if_neg (show ¬ (20 : Int32) < nI v from nI_nlt (a := 20) c2 (by omega)), if_pos (show 1 ≤ v ∧ v ≤ 20 by omega)]
        · rw [if_pos (show (20 : Int32) < nI v from nI_lt (a := 20) (by omega) (by omega)), if_neg (show ¬ (1 ≤ v ∧ v ≤ 20) by omega)]
    rcases h1 with rfl | rfl
    · rw [if_pos (show nI 98 = (98 : Int32) from rfl), hin]
    · rw [if_neg (show ¬ nI 114 = (98 : Int32) by decide), if_pos (show nI 114 = (114 : Int32) from rfl), hin]
  · have h64 := pow_ns h8
    rw [if_neg (show ¬ nI wd = (98 : Int32) from fun z => h1 (nI_inj (b := 98) (by omega) (by omega) z)), if_neg (show ¬ nI wd = (114 : Int32) from fun z => h2 (nI_inj (b := 114) (by omega) (by omega) z))]
    have hall : f_X9_allPlaces dt M = nI (2 ^ n - 1) := by unfold f_X9_allPlaces; rw [h7, all_spec n (by omega)]
    by_cases c : v ≤ 2 ^ n - 1
    · rw [if_neg (show ¬ f_X9_allPlaces dt M < nI v by rw [hall]; exact nI_nlt c (by omega)), if_pos ⟨by omega, c⟩]
    · rw [if_pos (show f_X9_allPlaces dt M < nI v by rw [hall]; exact nI_lt (by omega) (by omega)), if_neg (fun z => c z.2)]
theorem WBd_c {wd dt n lo hi : Nat} {M M' : Mm} (h : ∀ o j, 1 ≤ o ∧ o ≤ 34 → M' o j = M o j) (c : WBd wd dt n lo hi M) : WBd wd dt n lo hi M' := by
  rcases c with c | ⟨h1, h2, h3, h4, h6, h7, h8⟩
  · exact Or.inl c
  · exact Or.inr ⟨h1, h2, h3, h4, h6, (h _ _ (by omega)).trans h7, h8⟩
theorem num_cases {len p lo hi : Nat} {tx : Nat → Nat} (hlen : len ≤ 240) (htx : ∀ i, i < len → tx i < 256) (hp : p ≤ len) (hlo : lo < 1000) (hhi : hi < 1000) : ∃ q, p ≤ q ∧ q ≤ len ∧ ((∃ fl, (fl = 1 ∨ fl = 2) ∧ (∀ (Mc : Mm) (wd dt n : Nat), wd < 1000 → CTx len tx Mc → Mc 35 3 = nI p → Mc 35 5 = 0 → WBd wd dt n lo hi Mc → ∃ v M', f_X7_readNumber 35 (nI wd) dt Mc = some (v, M') ∧ M' 35 5 = nI fl ∧ M' 35 1 = nI q ∧ ∀ o j, ¬ (o = 35 ∧ (j = 1 ∨ j = 3 ∨ j = 4 ∨ j = 5)) → M' o j = Mc o j) ∧ (∀ Mr : Mm, RTx len tx Mr → Mr 128 2 = nI p → ∃ M', f_X12_isNumber 128 (nI lo) (nI hi) Mr = some (0, M') ∧ M' 128 7 = nI q ∧ M' 128 8 = nI fl ∧ ∀ o j, ¬ (o = 128 ∧ 2 ≤ j ∧ j ≤ 8) → M' o j = Mr o j)) ∨ (∃ v e, q < e ∧ e ≤ len ∧ lo ≤ v ∧ v ≤ hi ∧ (∀ (Mc : Mm) (wd dt n : Nat), wd < 1000 → CTx len tx Mc → Mc 35 3 = nI p → Mc 35 5 = 0 → WBd wd dt n lo hi Mc → ∃ M', f_X7_readNumber 35 (nI wd) dt Mc = some (nI v, M') ∧ M' 35 5 = 0 ∧ M' 35 3 = nI e ∧ M' 35 4 = nI q ∧ ∀ o j, ¬ (o = 35 ∧ (j = 3 ∨ j = 4)) → M' o j = Mc o j) ∧ (∀ Mr : Mm, RTx len tx Mr → Mr 128 2 = nI p → ∃ M', f_X12_isNumber 128 (nI lo) (nI hi) Mr = some (1, M') ∧ M' 128 5 = nI v ∧ M' 128 2 = nI e ∧ M' 128 3 = nI q ∧ ∀ o j, ¬ (o = 128 ∧ 2 ≤ j ∧ j ≤ 6) → M' o j = Mr o j))) := by
  obtain ⟨q, hq⟩ := skp_ex (tx := tx) hp
  obtain ⟨e, he⟩ := dgp_ex (tx := tx) (show q ≤ len from hq.2.1)
  have hv1000 := vlF_b (tx := tx) (q := q) (i := e - q) (fun j hj => he.2.2.1 (q + j) (by omega) (by omega))
  have heq := he.1
  have hel := he.2.1
  have hql := hq.2.1
  -- the class, up to the figures' end
  have cls : ∀ (Mc : Mm), CTx len tx Mc → Mc 35 3 = nI p → ∃ M2, (∀ (wd : Int32) (dt : Nat), f_X7_readNumber 35 wd dt Mc = Bd (((if nI (e - q) = 0 then Bd (f_X7_fail 35 (1 : Int32) (nI e) M2) (fun r17 => some r17) else (if (3 : Int32) < nI (e - q) then Bd (f_X7_fail 35 (2 : Int32) (nI q) M2) (fun r19 => some r19) else (if (f_X7_withinBounds wd (nI (vlF tx q (e - q))) dt M2) = 0 then Bd (f_X7_fail 35 (2 : Int32) (nI q) M2) (fun r21 => some r21) else some M2)))) : Option (Mm)) (fun j15 => some (nI (vlF tx q (e - q)), j15))) ∧ M2 35 3 = nI e ∧ M2 35 4 = nI q ∧ ∀ o j, ¬ (o = 35 ∧ (j = 3 ∨ j = 4)) → M2 o j = Mc o j := fun Mc hc h4 => by
    obtain ⟨M1, g1, g2, g3⟩ := skipC hc h4 hq
    have hc1 : CTx len tx (st2 M1 35 4 (nI q)) := CTx_c (fun o j g => by rw [s2_at, if_neg (by omega), g3 o j (by omega)]) hc
    obtain ⟨M2, k1, k2, k3⟩ := figC hc1 (by rw [s2_nk (by omega)]; exact g2) s2_eq he
    have h5 : M2 35 4 = nI q := by rw [k3 35 4 (by omega), s2_eq]
    refine ⟨M2, fun wd dt => ?_, k2, h5, fun o j g => by rw [k3 o j (by omega), s2_at, if_neg (by omega), g3 o j (by omega)]⟩
    unfold f_X7_readNumber
    simp only [Lt_eq]
    rw [g1, Bd_some, g2, k1, Bd_some]
    dsimp only
    have hsub : M2 35 3 - M2 35 4 = nI (e - q) := by rw [k2, h5, pk_sub heq]
    simp only [hsub]
    simp only [k2, h5]
  by_cases hno : e = q
  · -- no figure
    refine ⟨q, hq.1, hq.2.1, Or.inl ⟨1, Or.inl rfl, fun Mc wd dt n _ hc h4 h6 _ => ?_, fun Mr hr h2 => ?_⟩⟩
    · obtain ⟨M2, c1, c2, c3, c4⟩ := cls Mc hc h4
      rw [c1 (nI wd) dt, show e - q = 0 by omega, if_pos (show nI 0 = 0 from rfl)]
      unfold f_X7_fail
      simp only [Lt_eq, Bd_some]
      exact ⟨_, _, rfl, by rw [s2_nk (by omega), s2_eq]; rfl, by rw [s2_eq, hno], fun o j g => by rw [s2_at, if_neg (by omega), s2_at, if_neg (by omega), c4 o j (by omega)]⟩
    · obtain ⟨M1, g1, g2, g3, g4, g5, g6⟩ := tokM hr h2 hq
      have htok : ¬ M1 128 4 = (-1 : Int32) := by
        by_cases c : q = len
        · rw [(g3 c).1]; decide
        · have hnd := he.2.2.2 (by omega)
          rw [hno] at hnd
          rw [(g4 (by omega) hnd).1]
          exact nI_m1 (by have := htx q (by omega); omega)
      unfold f_X12_isNumber f_X12_fails
      simp only [Lt_eq]
      rw [g1, Bd_some, if_neg htok, Bd_some]
      dsimp only
      rw [Gd_t (Or.inl rfl)]
      exact ⟨_, rfl, by rw [s2_nk (by omega), s2_eq]; exact g2, by rw [s2_eq]; rfl, fun o j g => by rw [s2_at, if_neg (by omega), s2_at, if_neg (by omega), g6 o j (by omega)]⟩
  · have hlt : q < e := by omega
    by_cases hok : e - q ≤ 3 ∧ lo ≤ vlF tx q (e - q) ∧ vlF tx q (e - q) ≤ hi
    · refine ⟨q, hq.1, hq.2.1, Or.inr ⟨vlF tx q (e - q), e, hlt, hel, hok.2.1, hok.2.2, fun Mc wd dt n hwd hc h4 h6 hw => ?_, fun Mr hr h2 => ?_⟩⟩
      · obtain ⟨M2, c1, c2, c3, c4⟩ := cls Mc hc h4
        have hw2 : WBd wd dt n lo hi M2 := WBd_c (fun o j g => c4 o j (by omega)) hw
        refine ⟨M2, ?_, by rw [c4 35 5 (by omega)]; exact h6, c2, c3, c4⟩
        rw [c1 (nI wd) dt, if_neg (nI_ne0 (by omega) (by omega)), if_neg (show ¬ (3 : Int32) < nI (e - q) from nI_nlt (a := 3) hok.1 (by omega)), if_neg (show ¬ f_X7_withinBounds (nI wd) (nI (vlF tx q (e - q))) dt M2 = 0 by rw [within_spec hw2 hwd hv1000, if_pos hok.2]; exact one_ne), Bd_some]
      · obtain ⟨M1, g1, g2, g3, g4, g5, g6⟩ := tokM hr h2 hq
        obtain ⟨t1, t2, t3, t4⟩ := g5 e hlt he
        refine ⟨M1, ?_, t3, t2, g2, g6⟩
        unfold f_X12_isNumber
        rw [g1, Bd_some, if_pos t1, if_neg (show ¬ (4 : Int32) ≤ M1 128 6 by rw [t4]; exact nI_ge (b := 4) (by omega) (by omega)), t3, in_1 hok.2.1 hok.2.2 (by omega), if_neg one_ne]
    · refine ⟨q, hq.1, hq.2.1, Or.inl ⟨2, Or.inr rfl, fun Mc wd dt n hwd hc h4 h6 hw => ?_, fun Mr hr h2 => ?_⟩⟩
      · obtain ⟨M2, c1, c2, c3, c4⟩ := cls Mc hc h4
        have hw2 : WBd wd dt n lo hi M2 := WBd_c (fun o j g => c4 o j (by omega)) hw
        have hfin : f_X7_readNumber 35 (nI wd) dt Mc = some (nI (vlF tx q (e - q)), st2 (st2 M2 35 5 (2 : Int32)) 35 1 (nI q)) := by
          rw [c1 (nI wd) dt, if_neg (nI_ne0 (by omega) (by omega))]
          unfold f_X7_fail
          simp only [Lt_eq, Bd_some]
          by_cases c : e - q ≤ 3
          · rw [if_neg (show ¬ (3 : Int32) < nI (e - q) from nI_nlt (a := 3) c (by omega)), if_pos (show f_X7_withinBounds (nI wd) (nI (vlF tx q (e - q))) dt M2 = 0 by rw [within_spec hw2 hwd hv1000, if_neg (fun z => hok ⟨c, z⟩)]), Bd_some]
          · rw [if_pos (show (3 : Int32) < nI (e - q) from nI_lt (a := 3) (by omega) (by omega)), Bd_some]
        exact ⟨_, _, hfin, by rw [s2_nk (by omega), s2_eq]; rfl, by rw [s2_eq], fun o j g => by rw [s2_at, if_neg (by omega), s2_at, if_neg (by omega), c4 o j (by omega)]⟩
      · obtain ⟨M1, g1, g2, g3, g4, g5, g6⟩ := tokM hr h2 hq
        obtain ⟨t1, t2, t3, t4⟩ := g5 e hlt he
        have hfin : f_X12_isNumber 128 (nI lo) (nI hi) Mr = some (0, st2 (st2 M1 128 7 (M1 128 3)) 128 8 (2 : Int32)) := by
          unfold f_X12_isNumber f_X12_fails
          simp only [Lt_eq, Bd_some]
          rw [g1, Bd_some, if_pos t1]
          by_cases c : e - q ≤ 3
          · have hin0 : f_X12_in (M1 128 5) (nI lo) (nI hi) = 0 := by
              rw [t3]
              rcases rng_cases lo hi (by omega) (by omega) (nI (vlF tx q (e - q))) with ⟨a, z1, z2, z3⟩ | hr2
              · have := nI_inj (by omega) (by omega) z3
                exact absurd ⟨c, by omega, by omega⟩ hok
              · exact in_0 hr2
            rw [if_neg (show ¬ (4 : Int32) ≤ M1 128 6 by rw [t4]; exact nI_ge (b := 4) (by omega) (by omega)), hin0, if_pos rfl, if_pos trivial]
          · rw [if_pos (show (4 : Int32) ≤ M1 128 6 by rw [t4]; exact nI_le (a := 4) (by omega) (by omega)), if_pos trivial]
        exact ⟨_, hfin, by rw [s2_nk (by omega), s2_eq]; exact g2, by rw [s2_eq]; rfl, fun o j g => by rw [s2_at, if_neg (by omega), s2_at, if_neg (by omega), g6 o j (by omega)]⟩
