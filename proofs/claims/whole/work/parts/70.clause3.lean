theorem clause_cases {len q n k ns : Nat} {cl : Option Nat} {tx W Me S : Nat → Nat} (hlen : len ≤ 240) (htx : ∀ i, i < len → tx i < 256) (hq : q < len) (hV : VD n k ns cl W Me S) : (∃ fl pos, (0 < fl ∧ fl ≤ 4) ∧ pos ≤ len ∧ (∀ (Mc : Mm) (dt : Nat), CTx len tx Mc → Mc 35 3 = nI q → Mc 35 5 = 0 → PTc dt n k ns cl W Me S Mc → ∃ M', f_X7_readClause 35 dt Mc = some M' ∧ M' 35 5 = nI fl ∧ M' 35 1 = nI pos ∧ FrC dt Mc M') ∧ (∀ (Mr : Mm), RTx len tx Mr → TK len tx q Mr → PTr n k ns cl W Me S Mr → ∃ M', f_X12_isClause 128 Mr = some (0, M') ∧ M' 128 7 = nI pos ∧ M' 128 8 = nI fl ∧ FrR Mr M')) ∨ (∃ (n' k' ns' : Nat) (cl' : Option Nat) (W' Me' S' : Nat → Nat) (p' : Nat), VD n' k' ns' cl' W' Me' S' ∧ q < p' ∧ p' ≤ len ∧ (∀ (Mc : Mm) (dt : Nat), CTx len tx Mc → Mc 35 3 = nI q → Mc 35 5 = 0 → PTc dt n k ns cl W Me S Mc → ∃ M', f_X7_readClause 35 dt Mc = some M' ∧ M' 35 5 = 0 ∧ M' 35 3 = nI p' ∧ PTc dt n' k' ns' cl' W' Me' S' M' ∧ FrS dt Mc M') ∧ (∀ (Mr : Mm), RTx len tx Mr → TK len tx q Mr → PTr n k ns cl W Me S Mr → ∃ M', f_X12_isClause 128 Mr = some (1, M') ∧ M' 128 2 = nI p' ∧ PTr n' k' ns' cl' W' Me' S' M' ∧ FrR Mr M')) := by
  have ht := htx q hq
  obtain ⟨v0, v1, v2, v3, v4, v5, v6⟩ := id hV
  by_cases hf : fwD n k ns cl (tx q) = 0
  case neg =>
    have hl := fwD_le n k ns cl (tx q)
    exact Or.inl ⟨fwD n k ns cl (tx q), q, by omega, by omega, fun Mc dt hc h4 _ hP => rcl_bad hc h4 hq hP hV hf, fun Mr hr hk hP => ⟨_, icl_bad ht hk hP hV hf, by rw [s2_nk (by omega), s2_eq]; exact hk.1, by rw [s2_eq], fun o j g => by rw [s2_at, if_neg (by omega), s2_at, if_neg (by omega)]⟩⟩
  have hm4 : ∀ (Mc : Mm), CTx len tx Mc → CTx len tx (st2 Mc 35 3 (nI (q + 1))) := fun Mc hc => CTx_c (fun o j g => by rw [s2_at, if_neg (by omega)]) hc
  have hp4 : ∀ (Mc : Mm) (dt : Nat), PTc dt n k ns cl W Me S Mc → PTc dt n k ns cl W Me S (st2 Mc 35 3 (nI (q + 1))) := fun Mc dt hP => PTc_c v1 (fun o j g => by rw [s2_at, if_neg (by omega)]) hP
  have hF4 : ∀ {Mc M' : Mm} {dt : Nat}, FrC dt (st2 Mc 35 3 (nI (q + 1))) M' → FrC dt Mc M' := fun h o j g => by rw [h o j g, s2_at, if_neg (by omega)]
  have hF5 : ∀ {Mc M' : Mm} {dt : Nat}, FrS dt (st2 Mc 35 3 (nI (q + 1))) M' → FrS dt Mc M' := fun h o j g => by rw [h o j g, s2_at, if_neg (by omega)]
  have h64 : ∀ {Mc : Mm}, Mc 35 5 = 0 → st2 Mc 35 3 (nI (q + 1)) 35 5 = 0 := fun h => by rw [s2_nk (by omega)]; exact h
  have gz : ∀ {f : Option (Int32 × Mm)} {v : Int32} {M' : Mm}, f = some (v, M') → (v = 0 ∨ v = 1) → Bd f (fun r3 => Gd (zb r3.1) (some (r3.1, r3.2))) = some (v, M') := fun {f v M'} h hv => by
    rw [h, Bd_some]
    exact Gd_t hv
  have nd : ∀ {c : Nat} {Mr : Mm}, 58 ≤ c → tx q = c → TK len tx q Mr → Mr 128 4 = nI c ∧ Mr 128 2 = nI (q + 1) := fun {c Mr} h1 h2 hk => by
    obtain ⟨a1, a2⟩ := hk.2.1 (by omega)
    exact ⟨by rw [a1, h2], a2⟩
  have hdl : ∀ Mr : Mm, f_X12_isHead 128 Mr = BdS (Lp (b_X12_isHead_2 128) 100000 ((1 : Int32), Mr)) hdT := fun _ => rfl
  have hml : ∀ Mr : Mm, Mr 128 10 = nI 0 → f_X12_isMethod 128 Mr = BdS (Lp (b_X12_isMethod_15 128) 100000 ((1 : Int32), Mr)) mtT := fun Mr h => by
    unfold f_X12_isMethod
    rw [if_pos (show Mr 128 10 ≤ 0 by rw [h]; decide)]
    rfl
  by_cases hn : n = 0
  · have h98 : tx q = 98 := by
      apply Classical.byContradiction
      intro z
      unfold fwD at hf
      rw [if_pos hn, if_neg z] at hf
      omega
    obtain ⟨rfl, rfl, rfl, rfl⟩ : n = 0 ∧ k = 0 ∧ ns = 0 ∧ cl = none := by
      rcases v0 with h | h
      · exact h
      · omega
    have icl : ∀ Mr : Mm, TK len tx q Mr → PTr 0 0 0 none W Me S Mr → f_X12_isClause 128 Mr = Bd (f_X12_isHead 128 Mr) (fun r3 => Gd (zb r3.1) (some (r3.1, r3.2))) := fun Mr hk hP => by
      unfold f_X12_isClause
      rw [if_pos (show Mr 128 4 = (98 : Int32) from (nd (by omega) h98 hk).1), if_pos (show Mr 128 9 ≤ 0 by rw [hP.1]; decide)]
    rcases headL (Me := Me) (S := S) hlen htx 6 0 (q + 1) W (by omega) (by omega) (by omega) (fun i hi => absurd hi (by omega)) with ⟨fl, pos, w1, w2, w3, w4⟩ | ⟨n', p', W', w1, w2, w3, w4, w5, w6, w7⟩
    · refine Or.inl ⟨fl, pos, by omega, w2, fun Mc dt hc h4 h6 hP => ?_, fun Mr hr hk hP => ?_⟩
      · obtain ⟨M', k1, k2, k3, k4⟩ := w3 _ dt 100000 (hm4 Mc hc) s2_eq (h64 h6) (hp4 Mc dt hP) (by omega)
        exact ⟨M', by rw [rcl_go hc h4 hq hP hV hf, h98]; exact k1, k2, k3, hF4 k4⟩
      · obtain ⟨M', k1, k2, k3, k4⟩ := w4 Mr 100000 hr (nd (by omega) h98 hk).2 hP (by omega)
        exact ⟨M', by rw [icl Mr hk hP, hdl]; exact gz k1 (Or.inl rfl), k2, k3, k4⟩
    · refine Or.inr ⟨n', 0, 0, none, W', Me, S, p', ⟨Or.inr ⟨w1, w2⟩, by omega, by omega, w5, fun i hi => absurd hi (by omega), fun i hi => absurd hi (by omega), fun c hc => by cases hc⟩, by omega, w4, fun Mc dt hc h4 h6 hP => ?_, fun Mr hr hk hP => ?_⟩
      · obtain ⟨M', k1, k2, k3, k4, k5⟩ := w6 _ dt 100000 (hm4 Mc hc) s2_eq (h64 h6) (hp4 Mc dt hP) (by omega)
        exact ⟨M', by rw [rcl_go hc h4 hq hP hV hf, h98]; exact k1, k2, k3, k4, hF5 k5⟩
      · obtain ⟨M', k1, k2, k3, k4⟩ := w7 Mr 100000 hr (nd (by omega) h98 hk).2 hP (by omega)
        exact ⟨M', by rw [icl Mr hk hP, hdl]; exact gz k1 (Or.inr rfl), k2, k3, k4⟩
  · have hn36 : 3 ≤ n ∧ n ≤ 6 := by
      rcases v0 with h | h
      · omega
      · exact h
    have hne : ∀ {c d : Nat} {Mr : Mm}, 58 ≤ c → tx q = c → c < 256 → d < 256 → ¬ c = d → TK len tx q Mr → ¬ Mr 128 4 = nI d := fun {c d Mr} h1 h2 h3 h4 h5 hk => by
      rw [(nd h1 h2 hk).1]
      exact fun z => h5 (nI_inj (by omega) (by omega) z)
    have h9 : ∀ {Mr : Mm}, PTr n k ns cl W Me S Mr → ¬ Mr 128 9 = 0 := fun hP => by rw [hP.1]; exact nI_ne0 (by omega) (by omega)
    have hw : (tx q = 99 ∧ cl = none) ∨ (tx q = 109 ∧ k = 0) ∨ (tx q = 114 ∧ ns < n) := by
      unfold fwD at hf
      rw [if_neg hn] at hf
      by_cases c98 : tx q = 98
      · rw [if_pos c98] at hf; omega
      · rw [if_neg c98] at hf
        by_cases c99 : tx q = 99
        · rw [if_pos c99] at hf
          by_cases cc : cl = none
          · exact Or.inl ⟨c99, cc⟩
          · rw [if_neg cc] at hf; omega
        · rw [if_neg c99] at hf
          by_cases c109 : tx q = 109
          · rw [if_pos c109] at hf
            by_cases cc : k = 0
            · exact Or.inr (Or.inl ⟨c109, cc⟩)
            · rw [if_neg cc] at hf; omega
          · rw [if_neg c109] at hf
            by_cases c114 : tx q = 114
            · rw [if_pos c114] at hf
              by_cases cc : n ≤ ns
              · rw [if_pos cc] at hf; omega
              · exact Or.inr (Or.inr ⟨c114, by omega⟩)
            · rw [if_neg c114] at hf; omega
    rcases hw with ⟨hx, rfl⟩ | ⟨hx, rfl⟩ | ⟨hx, hs⟩
    · have icl : ∀ Mr : Mm, TK len tx q Mr → PTr n k ns none W Me S Mr → f_X12_isClause 128 Mr = Bd (f_X12_isCall 128 Mr) (fun r3 => Gd (zb r3.1) (some (r3.1, r3.2))) := fun Mr hk hP => by
        unfold f_X12_isClause
        rw [if_neg (show ¬ Mr 128 4 = (98 : Int32) from hne (c := 99) (d := 98) (by omega) hx (by omega) (by omega) (by omega) hk), if_neg (h9 hP), if_neg (show ¬ Mr 128 4 = (109 : Int32) from hne (c := 99) (d := 109) (by omega) hx (by omega) (by omega) (by omega) hk), if_neg (show ¬ Mr 128 4 = (114 : Int32) from hne (c := 99) (d := 114) (by omega) hx (by omega) (by omega) (by omega) hk), if_pos (show Mr 128 4 = (99 : Int32) from (nd (by omega) hx hk).1)]
      rcases callL (W := W) (Me := Me) (S := S) hn36.2 v1 v2 hlen htx (show q + 1 ≤ len by omega) with ⟨fl, pos, w1, w2, w3, w4⟩ | ⟨p', c, w3, w4, w5, w6, w7⟩
      · refine Or.inl ⟨fl, pos, w1, w2, fun Mc dt hc h4 h6 hP => ?_, fun Mr hr hk hP => ?_⟩
        · obtain ⟨M', k1, k2, k3, k4⟩ := w3 _ dt 100000 (hm4 Mc hc) s2_eq (h64 h6) (hp4 Mc dt hP) (by omega)
          exact ⟨M', by rw [rcl_go hc h4 hq hP hV hf, hx]; exact k1, k2, k3, hF4 k4⟩
        · obtain ⟨M', k1, k2, k3, k4⟩ := w4 Mr hr (nd (by omega) hx hk).2 hP
          exact ⟨M', by rw [icl Mr hk hP]; exact gz k1 (Or.inl rfl), k2, k3, k4⟩
      · refine Or.inr ⟨n, k, ns, some c, W, Me, S, p', ⟨Or.inr hn36, v1, v2, v3, v4, v5, fun d hd => (show c = d by simpa using hd) ▸ w5⟩, by omega, w4, fun Mc dt hc h4 h6 hP => ?_, fun Mr hr hk hP => ?_⟩
        · obtain ⟨M', k1, k2, k3, k4, k5⟩ := w6 _ dt 100000 (hm4 Mc hc) s2_eq (h64 h6) (hp4 Mc dt hP) (by omega)
          exact ⟨M', by rw [rcl_go hc h4 hq hP hV hf, hx]; exact k1, k2, k3, k4, hF5 k5⟩
        · obtain ⟨M', k1, k2, k3, k4⟩ := w7 Mr hr (nd (by omega) hx hk).2 hP
          exact ⟨M', by rw [icl Mr hk hP]; exact gz k1 (Or.inr rfl), k2, k3, k4⟩
    · have icl : ∀ Mr : Mm, TK len tx q Mr → PTr n 0 ns cl W Me S Mr → f_X12_isClause 128 Mr = Bd (f_X12_isMethod 128 Mr) (fun r3 => Gd (zb r3.1) (some (r3.1, r3.2))) := fun Mr hk hP => by
        unfold f_X12_isClause
        rw [if_neg (show ¬ Mr 128 4 = (98 : Int32) from hne (c := 109) (d := 98) (by omega) hx (by omega) (by omega) (by omega) hk), if_neg (h9 hP), if_pos (show Mr 128 4 = (109 : Int32) from (nd (by omega) hx hk).1)]
      rcases methL (n := n) (ns := ns) (cl := cl) (W := W) (S := S) hn36.1 hn36.2 hlen htx 12 0 (q + 1) Me (by omega) (by omega) (by omega) (fun i hi => absurd hi (by omega)) with ⟨fl, pos, w1, w2, w3, w4⟩ | ⟨k', p', Me', w1, w2, w3, w4, w5, w6, w7⟩
      · refine Or.inl ⟨fl, pos, w1, w2, fun Mc dt hc h4 h6 hP => ?_, fun Mr hr hk hP => ?_⟩
        · obtain ⟨M', k1, k2, k3, k4⟩ := w3 _ dt 100000 (hm4 Mc hc) s2_eq (h64 h6) (hp4 Mc dt hP) (by omega)
          exact ⟨M', by rw [rcl_go hc h4 hq hP hV hf, hx]; exact k1, k2, k3, hF4 k4⟩
        · obtain ⟨M', k1, k2, k3, k4⟩ := w4 Mr 100000 hr (nd (by omega) hx hk).2 hP (by omega)
          exact ⟨M', by rw [icl Mr hk hP, hml Mr hP.2.1]; exact gz k1 (Or.inl rfl), k2, k3, k4⟩
      · refine Or.inr ⟨n, k', ns, cl, W, Me', S, p', ⟨Or.inr hn36, w2, v2, v3, w5, v5, v6⟩, by omega, w4, fun Mc dt hc h4 h6 hP => ?_, fun Mr hr hk hP => ?_⟩
        · obtain ⟨M', k1, k2, k3, k4, k5⟩ := w6 _ dt 100000 (hm4 Mc hc) s2_eq (h64 h6) (hp4 Mc dt hP) (by omega)
          exact ⟨M', by rw [rcl_go hc h4 hq hP hV hf, hx]; exact k1, k2, k3, k4, hF5 k5⟩
        · obtain ⟨M', k1, k2, k3, k4⟩ := w7 Mr 100000 hr (nd (by omega) hx hk).2 hP (by omega)
          exact ⟨M', by rw [icl Mr hk hP, hml Mr hP.2.1]; exact gz k1 (Or.inr rfl), k2, k3, k4⟩
    · have icl : ∀ Mr : Mm, TK len tx q Mr → PTr n k ns cl W Me S Mr → f_X12_isClause 128 Mr = Bd (f_X12_isSuitorItem 128 Mr) (fun r3 => Gd (zb r3.1) (some (r3.1, r3.2))) := fun Mr hk hP => by
        unfold f_X12_isClause
        rw [if_neg (show ¬ Mr 128 4 = (98 : Int32) from hne (c := 114) (d := 98) (by omega) hx (by omega) (by omega) (by omega) hk), if_neg (h9 hP), if_neg (show ¬ Mr 128 4 = (109 : Int32) from hne (c := 114) (d := 109) (by omega) hx (by omega) (by omega) (by omega) hk), if_pos (show Mr 128 4 = (114 : Int32) from (nd (by omega) hx hk).1)]
      rcases suitL (cl := cl) (W := W) (Me := Me) (S := S) hn36.2 v1 hs hlen htx (show q + 1 ≤ len by omega) v5 with ⟨fl, pos, w1, w2, w3, w4⟩ | ⟨p', S', w3, w4, w5, w6, w7⟩
      · refine Or.inl ⟨fl, pos, w1, w2, fun Mc dt hc h4 h6 hP => ?_, fun Mr hr hk hP => ?_⟩
        · obtain ⟨M', k1, k2, k3, k4⟩ := w3 _ dt 100000 (hm4 Mc hc) s2_eq (h64 h6) (hp4 Mc dt hP) (by omega)
          exact ⟨M', by rw [rcl_go hc h4 hq hP hV hf, hx]; exact k1, k2, k3, hF4 k4⟩
        · obtain ⟨M', k1, k2, k3, k4⟩ := w4 Mr hr (nd (by omega) hx hk).2 hP
          exact ⟨M', by rw [icl Mr hk hP]; exact gz k1 (Or.inl rfl), k2, k3, k4⟩
      · refine Or.inr ⟨n, k, ns + 1, cl, W, Me, S', p', ⟨Or.inr hn36, v1, by omega, v3, v4, w5, v6⟩, by omega, w4, fun Mc dt hc h4 h6 hP => ?_, fun Mr hr hk hP => ?_⟩
        · obtain ⟨M', k1, k2, k3, k4, k5⟩ := w6 _ dt 100000 (hm4 Mc hc) s2_eq (h64 h6) (hp4 Mc dt hP) (by omega)
          exact ⟨M', by rw [rcl_go hc h4 hq hP hV hf, hx]; exact k1, k2, k3, k4, hF5 k5⟩
        · obtain ⟨M', k1, k2, k3, k4⟩ := w7 Mr hr (nd (by omega) hx hk).2 hP
          exact ⟨M', by rw [icl Mr hk hP]; exact gz k1 (Or.inr rfl), k2, k3, k4⟩
