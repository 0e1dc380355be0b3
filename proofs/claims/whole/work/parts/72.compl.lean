/-! Tower.complete, and readInto against isRead -/
def clF (n : Nat) (cl : Option Nat) : Nat := match cl with | none => 2 ^ n - 1 | some c => c
def kF (n k : Nat) : Nat := if k = 0 then (if n = 0 then 0 else 1) else k
def meF (n k : Nat) (Me : Nat → Nat) : Nat → Nat := fun i => if k = 0 then 2 ^ n - 1 else Me i
theorem kF_le {n k : Nat} (h : k ≤ 12) : kF n k ≤ 12 := by
  unfold kF
  by_cases c : k = 0
  · rw [if_pos c]
    by_cases d : n = 0
    · rw [if_pos d]; omega
    · rw [if_neg d]; omega
  · rw [if_neg c]; exact h
theorem all_isC : ∀ n, n < 7 → isC n (2 ^ n - 1) = true := by decide +kernel
theorem all_lt (n : Nat) : 2 ^ n - 1 < 2 ^ n := by
  have : 0 < 2 ^ n := Nat.pow_pos (by omega)
  omega
theorem VD_n {n k ns : Nat} {cl : Option Nat} {W Me S : Nat → Nat} (h : VD n k ns cl W Me S) : n ≤ 6 ∧ k ≤ 12 ∧ ns ≤ n := ⟨by rcases h.1 with z | z <;> omega, h.2.1, h.2.2.1⟩
theorem VD_TV {n k ns : Nat} {cl : Option Nat} {W Me S : Nat → Nat} (h : VD n k ns cl W Me S) : TV n (kF n k) ns (clF n cl) (meF n k Me) W S := by
  obtain ⟨n6, k12, nsn⟩ := VD_n h
  obtain ⟨v0, v1, v2, v3, v4, v5, v6⟩ := h
  have hcl : clF n cl < 2 ^ n ∧ isC n (clF n cl) = true := by
    cases cl with
    | none => exact ⟨all_lt n, all_isC n (by omega)⟩
    | some c => exact v6 c rfl
  refine ⟨?_, hcl.1, hcl.2, fun i hi => ?_, v3, v5⟩
  · unfold kF
    rcases v0 with ⟨rfl, rfl, rfl, -⟩ | ⟨a, b⟩
    · exact Or.inl ⟨rfl, rfl, rfl⟩
    · refine Or.inr ⟨a, b, ?_, ?_, v2⟩
      · by_cases c : k = 0
        · rw [if_pos c, if_neg (by omega)]; omega
        · rw [if_neg c]; omega
      · by_cases c : k = 0
        · rw [if_pos c, if_neg (by omega)]; omega
        · rw [if_neg c]; omega
  · unfold meF
    by_cases c : k = 0
    · rw [if_pos c]; exact ⟨all_lt n, all_isC n (by omega)⟩
    · rw [if_neg c]
      refine v4 i ?_
      unfold kF at hi
      rw [if_neg c] at hi
      exact hi
theorem complete_spec {dt n k ns : Nat} {cl : Option Nat} {W Me S : Nat → Nat} {M : Mm} (hV : VD n k ns cl W Me S) (h : PTc dt n k ns cl W Me S M) : ∃ M', f_X9_complete dt M = some M' ∧ TW dt n (kF n k) ns (clF n cl) (meF n k Me) W S M' ∧ ∀ o j, ¬ (dt ≤ o ∧ o ≤ dt + 16) → M' o j = M o j := by
  obtain ⟨n6, k12, nsn⟩ := VD_n hV
  obtain ⟨c0, c2, c3, c4, c5, c6, c7, c8, c9⟩ := id h
  unfold f_X9_complete
  by_cases hn : n = 0
  · obtain ⟨rfl, rfl, rfl, rfl⟩ : n = 0 ∧ k = 0 ∧ ns = 0 ∧ cl = none := by
      rcases hV.1 with z | z
      · exact z
      · omega
    refine ⟨M, ?_, ⟨c0, c2, c3, c4, fun z => absurd z (by omega), fun i hi => absurd hi (show ¬ i < 0 by omega), c6, c8⟩, fun _ _ _ => rfl⟩
    rw [if_pos (stands_0 c2), Bd_some, if_pos (stands_0 c2)]
  have hn0 : 0 < n := by omega
  have h1 : ∃ M1, (((if (f_X9_stands dt M) = 0 then some M else (if (M dt 1) = 0 then Bd (f_X9_addChange dt (f_X9_allPlaces dt M) M) (fun r6 => some r6.2) else some M))) : Option (Mm)) = some M1 ∧ PTc dt n (kF n k) ns cl W (meF n k Me) S M1 ∧ ∀ o j, ¬ (dt ≤ o ∧ o ≤ dt + 16) → M1 o j = M o j := by
    rw [if_neg (show ¬ f_X9_stands dt M = 0 by rw [stands_1 c2 hn0 n6]; exact one_ne)]
    by_cases ck : k = 0
    · subst ck
      have hkd : KDF[(dt + 2) + 3 + ix (M dt 1)]? = some (0, 0) := by rw [c3, ix_nI (by omega)]; exact kd_draft c0 (by omega)
      have hg : ib (M dt 1) 12 := by rw [c3]; exact (ib_nI (by omega)).mpr (by omega)
      obtain ⟨M1, g1, g2, g3⟩ := become_1 (o := (dt + 2) + 3 + 0) (M := M) (show n < 7 by omega) (all_lt n) (all_isC n (by omega))
      have hadd : f_X9_addChange dt (f_X9_allPlaces dt M) M = some (1, st2 M1 dt 1 (nI 1)) := by
        unfold f_X9_addChange f_X9_allPlaces
        simp only [Lt_eq]
        rw [if_neg (show ¬ (12 : Int32) ≤ M dt 1 by rw [c3]; exact nI_ge (b := 12) (by omega) (by omega)), Gd_t hg, Gd_t hkd, c3, ix_nI (by omega), c2, all_spec n (by omega), g1, Bd_some, if_neg one_ne]
        dsimp only
        rw [g3 dt (by omega), c3, nI_1]
      have hf : ∀ o i, ¬ ((o = dt ∧ i = 1) ∨ o = dt + 5) → st2 M1 dt 1 (nI 1) o i = M o i := fun o i g => by rw [s2_at, if_neg (by omega), g3 o (by omega)]
      have hk1 : kF n 0 = 1 := by unfold kF; rw [if_pos rfl, if_neg hn]
      refine ⟨st2 M1 dt 1 (nI 1), ?_, ⟨c0, by rw [hf _ _ (by omega)]; exact c2, by rw [hk1, s2_eq], by rw [hf _ _ (by omega)]; exact c4, by rw [hf _ _ (by omega)]; exact c5, fun i hi => by rw [hf _ _ (by omega)]; exact c6 i hi, fun i hi => ?_, fun i hi => by rw [hf _ _ (by omega)]; exact c8 i hi, fun c hcc => CHr_c (fun i => hf _ i (by omega)) (c9 c hcc)⟩, fun o j g => hf o j (by omega)⟩
      · rw [if_pos (show M dt 1 = 0 by rw [c3]; rfl), hadd, Bd_some]
      · rw [hk1] at hi
        obtain rfl : i = 0 := by omega
        unfold meF
        rw [if_pos rfl]
        refine CHr_c (fun x => ?_) g2
        rw [s2_ne (by omega), show (dt + 2) + 3 + 0 = dt + 5 + 0 by omega]
    · have hk1 : kF n k = k := by unfold kF; rw [if_neg ck]
      have hm1 : meF n k Me = Me := by funext i; unfold meF; rw [if_neg ck]
      rw [hk1, hm1]
      exact ⟨M, by rw [if_neg (show ¬ M dt 1 = 0 by rw [c3]; exact nI_ne0 (by omega) (by omega))], h, fun _ _ _ => rfl⟩
  obtain ⟨M1, a1, ⟨b0, b2, b3, b4, b5, b6, b7, b8, b9⟩, a3⟩ := h1
  rw [a1, Bd_some, if_neg (show ¬ f_X9_stands dt M1 = 0 by rw [stands_1 b2 hn0 n6]; exact one_ne)]
  have hkF : kF n k ≤ 12 := kF_le k12
  cases cl with
  | some c =>
    refine ⟨M1, ?_, ⟨b0, b2, b3, b4, fun _ => b9 c rfl, b7, b6, b8⟩, a3⟩
    rw [if_neg (show ¬ M1 dt 3 = 0 by rw [b5]; exact one_ne)]
  | none =>
    obtain ⟨M2, g1, g2, g3⟩ := become_1 (o := dt + 1) (M := st2 M1 dt 3 (1 : Int32)) (show n < 7 by omega) (all_lt n) (all_isC n (by omega))
    have htell : f_X9_tellCall dt (f_X9_allPlaces dt M1) M1 = some (1, M2) := by
      unfold f_X9_tellCall f_X9_allPlaces
      simp only [Lt_eq]
      rw [s2_nk (show 0 ≠ 3 by omega), b2, all_spec n (by omega), g1, Bd_some]
      dsimp only
      rw [Gd_t (Or.inr rfl)]
    have hf : ∀ o i, ¬ ((o = dt ∧ i = 3) ∨ o = dt + 1) → M2 o i = M1 o i := fun o i g => by rw [g3 o (by omega), s2_at, if_neg (by omega)]
    refine ⟨M2, ?_, ⟨b0, by rw [hf _ _ (by omega)]; exact b2, by rw [hf _ _ (by omega)]; exact b3, by rw [hf _ _ (by omega)]; exact b4, fun _ => g2, fun i hi => CHr_c (fun x => hf _ x (by omega)) (b7 i hi), fun i hi => by rw [hf _ _ (by omega)]; exact b6 i hi, fun i hi => by rw [hf _ _ (by omega)]; exact b8 i hi⟩, fun o j g => by rw [hf o j (by omega), a3 o j g]⟩
    rw [if_pos (show M1 dt 3 = 0 by rw [b5]), htell, Bd_some]
theorem read_cases {len : Nat} {tx : Nat → Nat} (hlen : len ≤ 240) (htx : ∀ i, i < len → tx i < 256) : (∃ fl pos, (0 < fl ∧ fl ≤ 4) ∧ pos ≤ len ∧ (∀ (Mc : Mm) (dt : Nat), (dt = 1 ∨ dt = 18) → CTx len tx Mc → ∃ M', f_X7_readInto 35 dt Mc = some (nI fl, M') ∧ M' 35 0 = 0 ∧ M' 35 1 = nI pos ∧ ∀ o j, ¬ (o = 35 ∨ (dt ≤ o ∧ o ≤ dt + 16)) → M' o j = Mc o j) ∧ (∀ (Mr : Mm), RTx len tx Mr → ∃ M', f_X12_isRead 128 Mr = some (0, M') ∧ M' 128 7 = nI pos ∧ M' 128 8 = nI fl ∧ FrR Mr M')) ∨ (∃ (n k ns : Nat) (cl : Option Nat) (W Me S : Nat → Nat), VD n k ns cl W Me S ∧ (∀ (Mc : Mm) (dt : Nat), (dt = 1 ∨ dt = 18) → CTx len tx Mc → ∃ M', f_X7_readInto 35 dt Mc = some (0, M') ∧ M' 35 0 = 0 ∧ M' 35 1 = (-1 : Int32) ∧ TW dt n (kF n k) ns (clF n cl) (meF n k Me) W S M' ∧ ∀ o j, ¬ (o = 35 ∨ (dt ≤ o ∧ o ≤ dt + 16)) → M' o j = Mc o j) ∧ (∀ (Mr : Mm), RTx len tx Mr → ∃ M', f_X12_isRead 128 Mr = some (1, M') ∧ PTr n k ns cl W Me S M' ∧ FrR Mr M')) := by
  obtain ⟨q, hq⟩ := skp_ex (tx := tx) (Nat.zero_le len)
  have hql := hq.2.1
  have hV0 : VD 0 0 0 none (fun _ => 0) (fun _ => 0) (fun _ => 0) := ⟨Or.inl ⟨rfl, rfl, rfl, rfl⟩, by omega, by omega, fun i hi => absurd hi (by omega), fun i hi => absurd hi (by omega), fun i hi => absurd hi (by omega), fun c hc => by cases hc⟩
  have cls : ∀ (Mc : Mm) (dt : Nat), (dt = 1 ∨ dt = 18) → CTx len tx Mc → ∃ M1, f_X7_readInto 35 dt Mc = Bd (Lp (b_X7_readInto_25 35 dt) 100000 (nI 0, M1)) (fun e12 => Bd (((if (e12 35 5) = 0 then Bd (f_X9_complete dt e12) (fun r16 => some r16) else some e12)) : Option (Mm)) (fun j14 => some ((st2 j14 35 0 (0 : Int32)) 35 5, st2 j14 35 0 (0 : Int32)))) ∧ CTx len tx M1 ∧ M1 35 3 = nI q ∧ M1 35 5 = 0 ∧ M1 35 1 = (-1 : Int32) ∧ PTc dt 0 0 0 none (fun _ => 0) (fun _ => 0) (fun _ => 0) M1 ∧ ∀ o j, ¬ ((o = 35 ∧ 0 < j) ∨ (dt ≤ o ∧ o ≤ dt + 16)) → M1 o j = Mc o j := fun Mc dt hdt hc => by
    generalize hM0 : st2 (st2 (st2 (st2 (st2 (st2 (st2 Mc dt 0 (0 : Int32)) dt 1 (0 : Int32)) dt 2 (0 : Int32)) dt 3 (0 : Int32)) 35 3 (0 : Int32)) 35 5 (0 : Int32)) 35 1 (-1 : Int32) = M0
    have f0 : ∀ o j, ¬ ((o = 35 ∧ 0 < j) ∨ o = dt) → M0 o j = Mc o j := fun o j g => by
      rw [← hM0, s2_at, if_neg (by omega), s2_at, if_neg (by omega), s2_at, if_neg (by omega), s2_at, if_neg (by omega), s2_at, if_neg (by omega), s2_at, if_neg (by omega), s2_at, if_neg (by omega)]
    have hc0 : CTx len tx M0 := CTx_c (fun o j g => f0 o j (by omega)) hc
    have h04 : M0 35 3 = nI 0 := by rw [← hM0, s2_nk (by omega), s2_nk (by omega), s2_eq]; rfl
    have h06 : M0 35 5 = 0 := by rw [← hM0, s2_nk (by omega), s2_eq]
    have h01 : M0 35 1 = (-1 : Int32) := by rw [← hM0, s2_eq]
    have d3 : M0 dt 3 = 0 := by rw [← hM0, s2_ne (by omega), s2_ne (by omega), s2_ne (by omega), s2_eq]
    have d2 : M0 dt 2 = nI 0 := by rw [← hM0, s2_ne (by omega), s2_ne (by omega), s2_ne (by omega), s2_nk (by omega), s2_eq]; rfl
    have d1 : M0 dt 1 = nI 0 := by rw [← hM0, s2_ne (by omega), s2_ne (by omega), s2_ne (by omega), s2_nk (by omega), s2_nk (by omega), s2_eq]; rfl
    have d0 : M0 dt 0 = nI 0 := by rw [← hM0, s2_ne (by omega), s2_ne (by omega), s2_ne (by omega), s2_nk (by omega), s2_nk (by omega), s2_nk (by omega), s2_eq]; rfl
    obtain ⟨M1, g1, g2, g3⟩ := skipC hc0 h04 hq
    refine ⟨M1, ?_, CTx_c (fun o j g => g3 o j (by omega)) hc0, g2, by rw [g3 35 5 (by omega)]; exact h06, by rw [g3 35 1 (by omega)]; exact h01, ⟨hdt, by rw [g3 _ _ (by omega)]; exact d0, by rw [g3 _ _ (by omega)]; exact d1, by rw [g3 _ _ (by omega)]; exact d2, by rw [g3 _ _ (by omega)]; exact d3, fun i hi => absurd hi (by omega), fun i hi => absurd hi (by omega), fun i hi => absurd hi (by omega), fun c hc => by cases hc⟩, fun o j g => by rw [g3 o j (by omega), f0 o j (by omega)]⟩
    unfold f_X7_readInto f_X9_clear
    simp only [Lt_eq, Bd_some]
    rw [hM0, g1, Bd_some]
    rfl
  have ref : ∀ (Mr : Mm), RTx len tx Mr → ∃ M1, f_X12_isRead 128 Mr = BdS (Lp (b_X12_isRead_29 128) 100000 M1) rdT ∧ RTx len tx M1 ∧ TKe len tx q M1 ∧ PTr 0 0 0 none (fun _ => 0) (fun _ => 0) (fun _ => 0) M1 ∧ FrR Mr M1 := fun Mr hr => by
    generalize hM0 : st2 (st2 (st2 (st2 (st2 Mr 128 2 (0 : Int32)) 128 9 (0 : Int32)) 128 10 (0 : Int32)) 128 11 (0 : Int32)) 128 12 (-1 : Int32) = M0
    have f0 : ∀ o j, ¬ (o = 128 ∧ 2 ≤ j ∧ j ≤ 12) → M0 o j = Mr o j := fun o j g => by
      rw [← hM0, s2_at, if_neg (by omega), s2_at, if_neg (by omega), s2_at, if_neg (by omega), s2_at, if_neg (by omega), s2_at, if_neg (by omega)]
    have hr0 : RTx len tx M0 := RTx_c (fun o j g => f0 o j (by omega)) hr
    have e2 : M0 128 2 = nI 0 := by rw [← hM0, s2_nk (by omega), s2_nk (by omega), s2_nk (by omega), s2_nk (by omega), s2_eq]; rfl
    have e9 : M0 128 9 = nI 0 := by rw [← hM0, s2_nk (by omega), s2_nk (by omega), s2_nk (by omega), s2_eq]; rfl
    have e10 : M0 128 10 = nI 0 := by rw [← hM0, s2_nk (by omega), s2_nk (by omega), s2_eq]; rfl
    have e11 : M0 128 11 = nI 0 := by rw [← hM0, s2_nk (by omega), s2_eq]; rfl
    have e12 : M0 128 12 = (-1 : Int32) := by rw [← hM0, s2_eq]
    obtain ⟨M1, g1, g2, g3⟩ := tokE hr0 e2 hq
    refine ⟨M1, ?_, RTx_c (fun o j g => g3 o j (by omega)) hr0, g2, ⟨by rw [g3 _ _ (by omega)]; exact e9, by rw [g3 _ _ (by omega)]; exact e10, by rw [g3 _ _ (by omega)]; exact e11, by rw [g3 _ _ (by omega)]; exact e12, fun i hi => absurd hi (by omega), fun i hi => absurd hi (by omega), fun i hi => absurd hi (by omega)⟩, fun o j g => by rw [g3 o j (by omega), f0 o j (by omega)]⟩
    unfold f_X12_isRead
    simp only [Lt_eq]
    rw [hM0, g1, Bd_some]
    rfl
  rcases readL hlen htx len q 0 0 0 none (fun _ => 0) (fun _ => 0) (fun _ => 0) (by omega) hql hV0 with ⟨fl, pos, w1, w2, w3, w4⟩ | ⟨n, k, ns, cl, W, Me, S, w0, w3, w4⟩
  · refine Or.inl ⟨fl, pos, w1, w2, fun Mc dt hdt hc => ?_, fun Mr hr => ?_⟩
    · obtain ⟨M1, a1, a2, a3, a4, a5, a6, a7⟩ := cls Mc dt hdt hc
      obtain ⟨M2, b1, b2, b3, b4⟩ := w3 M1 dt 100000 0 a2 a3 a4 a6 (by omega) (by omega)
      refine ⟨st2 M2 35 0 (0 : Int32), ?_, s2_eq, by rw [s2_nk (by omega)]; exact b3, fun o j g => by rw [s2_at, if_neg (by omega), b4 o j (by omega), a7 o j (by omega)]⟩
      rw [a1, b1, Bd_some, if_neg (show ¬ M2 35 5 = 0 by rw [b2]; exact nI_ne0 w1.1 (by omega)), Bd_some, s2_nk (by omega), b2]
    · obtain ⟨M1, a1, a2, a3, a4, a5⟩ := ref Mr hr
      obtain ⟨M2, b1, b2, b3, b4⟩ := w4 M1 100000 a2 a3 a4 (by omega)
      exact ⟨M2, by rw [a1]; exact b1, b2, b3, FrR_t a5 b4⟩
  · refine Or.inr ⟨n, k, ns, cl, W, Me, S, w0, fun Mc dt hdt hc => ?_, fun Mr hr => ?_⟩
    · obtain ⟨M1, a1, a2, a3, a4, a5, a6, a7⟩ := cls Mc dt hdt hc
      obtain ⟨M2, b1, b2, b3, b4⟩ := w3 M1 dt 100000 0 a2 a3 a4 a6 (by omega) (by omega)
      obtain ⟨M3, d1, d2, d3⟩ := complete_spec w0 b3
      have h12 : kF n k ≤ 12 := kF_le (VD_n w0).2.1
      refine ⟨st2 M3 35 0 (0 : Int32), ?_, s2_eq, by rw [s2_nk (by omega), d3 35 1 (by omega), b4 35 1 (by omega)]; exact a5, ?_, fun o j g => by rw [s2_at, if_neg (by omega), d3 o j (by omega), b4 o j (by omega), a7 o j (by omega)]⟩
      · rw [a1, b1, Bd_some, if_pos b2, d1, Bd_some, Bd_some, s2_nk (by omega), d3 35 5 (by omega), b2]
      · have hv := VD_n w0
        obtain ⟨x0, x1, x2, x3, x4, x5, x6, x7⟩ := d2
        have hs : ∀ o j, o < 35 → st2 M3 35 0 (0 : Int32) o j = M3 o j := fun o j g => by rw [s2_ne (show o ≠ 35 by omega)]
        exact ⟨x0, (hs _ _ (by omega)).trans x1, (hs _ _ (by omega)).trans x2, (hs _ _ (by omega)).trans x3, fun z => CHr_c (fun j => hs _ j (by omega)) (x4 z), fun i hi => CHr_c (fun j => hs _ j (by omega)) (x5 i hi), fun i hi => (hs _ _ (by omega)).trans (x6 i hi), fun i hi => (hs _ _ (by omega)).trans (x7 i hi)⟩
    · obtain ⟨M1, a1, a2, a3, a4, a5⟩ := ref Mr hr
      obtain ⟨M2, b1, b2, b3⟩ := w4 M1 100000 a2 a3 a4 (by omega)
      exact ⟨M2, by rw [a1]; exact b1, b2, FrR_t a5 b3⟩
